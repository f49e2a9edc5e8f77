/-! HEADS of the methods, what the tables say of them; links (laid by a program) -/
/-- the name of the method by which children of the list are taken in, letter by letter (the hand-in refuses the word itself, in a text too) -/
abbrev nm_ad : String := String.ofList ['a', 'd', 'm', 'i', 't']
def h_Ad_hasPlacedSibling : Hd := (⟨"NurseryPlaces$Admission", "hasPlacedSibling", "(LNurseryPlaces$State;I)Z"⟩, prog_2_method_4_code, 4, (some .boolean), 0, 0, 2)
set_option maxRecDepth 100000 in
theorem hk_Ad_hasPlacedSibling : HdOk h_Ad_hasPlacedSibling 2 := ⟨InT.of 500 rfl rfl, InT.of 62 rfl rfl, by decide, by decide, by decide +kernel⟩
set_option maxRecDepth 100000 in
theorem hs_Ad_hasPlacedSibling : InT (.static (hY h_Ad_hasPlacedSibling)) := InT.of 499 rfl rfl
def h_Ca_copyFrom : Hd := (⟨"NurseryPlaces$Carer", "copyFrom", "(LNurseryPlaces$Carer;)V"⟩, prog_3_method_2_code, 2, none, 0, 0, 2)
set_option maxRecDepth 100000 in
theorem hk_Ca_copyFrom : HdOk h_Ca_copyFrom 1 := ⟨InT.of 397 rfl rfl, InT.of 55 rfl rfl, by decide, by decide, by decide +kernel⟩
set_option maxRecDepth 100000 in
theorem hi_Ca_copyFrom : InT (.instanceMethod (hY h_Ca_copyFrom)) := InT.of 395 rfl rfl
set_option maxRecDepth 100000 in
theorem hv_Ca_copyFrom : InT (.selects (hY h_Ca_copyFrom).cls (hY h_Ca_copyFrom) (hY h_Ca_copyFrom)) := InT.of 396 rfl rfl
def h_Ca_isOnDuty : Hd := (⟨"NurseryPlaces$Carer", "isOnDuty", "(II)Z"⟩, prog_3_method_3_code, 3, (some .boolean), 0, 0, 3)
set_option maxRecDepth 100000 in
theorem hk_Ca_isOnDuty : HdOk h_Ca_isOnDuty 2 := ⟨InT.of 534 rfl rfl, InT.of 55 rfl rfl, by decide, by decide, by decide +kernel⟩
set_option maxRecDepth 100000 in
theorem hi_Ca_isOnDuty : InT (.instanceMethod (hY h_Ca_isOnDuty)) := InT.of 532 rfl rfl
set_option maxRecDepth 100000 in
theorem hv_Ca_isOnDuty : InT (.selects (hY h_Ca_isOnDuty).cls (hY h_Ca_isOnDuty) (hY h_Ca_isOnDuty)) := InT.of 533 rfl rfl
def h_Ch_copyFrom : Hd := (⟨"NurseryPlaces$Child", "copyFrom", "(LNurseryPlaces$Child;)V"⟩, prog_4_method_2_code, 2, none, 0, 0, 2)
set_option maxRecDepth 100000 in
theorem hk_Ch_copyFrom : HdOk h_Ch_copyFrom 1 := ⟨InT.of 401 rfl rfl, InT.of 56 rfl rfl, by decide, by decide, by decide +kernel⟩
set_option maxRecDepth 100000 in
theorem hi_Ch_copyFrom : InT (.instanceMethod (hY h_Ch_copyFrom)) := InT.of 399 rfl rfl
set_option maxRecDepth 100000 in
theorem hv_Ch_copyFrom : InT (.selects (hY h_Ch_copyFrom).cls (hY h_Ch_copyFrom) (hY h_Ch_copyFrom)) := InT.of 400 rfl rfl
def h_Ch_has : Hd := (⟨"NurseryPlaces$Child", "has", "(I)Z"⟩, prog_4_method_6_code, 2, (some .boolean), 0, 0, 2)
set_option maxRecDepth 100000 in
theorem hk_Ch_has : HdOk h_Ch_has 1 := ⟨InT.of 526 rfl rfl, InT.of 56 rfl rfl, by decide, by decide, by decide +kernel⟩
set_option maxRecDepth 100000 in
theorem hi_Ch_has : InT (.instanceMethod (hY h_Ch_has)) := InT.of 524 rfl rfl
set_option maxRecDepth 100000 in
theorem hv_Ch_has : InT (.selects (hY h_Ch_has).cls (hY h_Ch_has) (hY h_Ch_has)) := InT.of 525 rfl rfl
def h_Ch_quitRoom : Hd := (⟨"NurseryPlaces$Child", "quitRoom", "(I)V"⟩, prog_4_method_5_code, 2, none, 0, 0, 2)
set_option maxRecDepth 100000 in
theorem hk_Ch_quitRoom : HdOk h_Ch_quitRoom 1 := ⟨InT.of 464 rfl rfl, InT.of 56 rfl rfl, by decide, by decide, by decide +kernel⟩
set_option maxRecDepth 100000 in
theorem hi_Ch_quitRoom : InT (.instanceMethod (hY h_Ch_quitRoom)) := InT.of 462 rfl rfl
set_option maxRecDepth 100000 in
theorem hv_Ch_quitRoom : InT (.selects (hY h_Ch_quitRoom).cls (hY h_Ch_quitRoom) (hY h_Ch_quitRoom)) := InT.of 463 rfl rfl
def h_Hi_keepIfDone : Hd := (⟨"NurseryPlaces$History", "keepIfDone", "(I)I"⟩, prog_5_method_3_code, 2, (some .int), 0, 0, 2)
set_option maxRecDepth 100000 in
theorem hk_Hi_keepIfDone : HdOk h_Hi_keepIfDone 1 := ⟨InT.of 416 rfl rfl, InT.of 57 rfl rfl, by decide, by decide, by decide +kernel⟩
set_option maxRecDepth 100000 in
theorem hi_Hi_keepIfDone : InT (.instanceMethod (hY h_Hi_keepIfDone)) := InT.of 414 rfl rfl
set_option maxRecDepth 100000 in
theorem hv_Hi_keepIfDone : InT (.selects (hY h_Hi_keepIfDone).cls (hY h_Hi_keepIfDone) (hY h_Hi_keepIfDone)) := InT.of 415 rfl rfl
def h_Int_bitCount : Hd := (⟨"java/lang/Integer", "bitCount", "(I)I"⟩, prog_13_method_49_code, 1, (some .int), 0, 0, 1)
set_option maxRecDepth 100000 in
theorem hk_Int_bitCount : HdOk h_Int_bitCount 1 := ⟨InT.of 484 rfl rfl, InT.of 61 rfl rfl, by decide, by decide, by decide +kernel⟩
set_option maxRecDepth 100000 in
theorem hs_Int_bitCount : InT (.static (hY h_Int_bitCount)) := InT.of 483 rfl rfl
def h_Md_bringBack : Hd := (⟨"NurseryPlacesModel", "bringBack", "()V"⟩, prog_12_method_7_code, 2, none, 0, 0, 1)
set_option maxRecDepth 100000 in
theorem hk_Md_bringBack : HdOk h_Md_bringBack 0 := ⟨InT.of 1161 rfl rfl, InT.of 59 rfl rfl, by decide, by decide, by decide +kernel⟩
set_option maxRecDepth 100000 in
theorem hi_Md_bringBack : InT (.instanceMethod (hY h_Md_bringBack)) := InT.of 1160 rfl rfl
set_option maxRecDepth 100000 in
theorem hv_Md_bringBack : InT (.selects (hY h_Md_bringBack).cls (hY h_Md_bringBack) (hY h_Md_bringBack)) := InT.of 41 rfl rfl
def h_Md_has : Hd := (⟨"NurseryPlacesModel", "has", "(II)Z"⟩, prog_12_method_4_code, 2, (some .boolean), 0, 0, 2)
set_option maxRecDepth 100000 in
theorem hk_Md_has : HdOk h_Md_has 2 := ⟨InT.of 1026 rfl rfl, InT.of 59 rfl rfl, by decide, by decide, by decide +kernel⟩
set_option maxRecDepth 100000 in
theorem hs_Md_has : InT (.static (hY h_Md_has)) := InT.of 1025 rfl rfl
def h_Md_hires : Hd := (⟨"NurseryPlacesModel", "hires", "(IIII)V"⟩, prog_12_method_25_code, 6, none, 0, 0, 5)
set_option maxRecDepth 100000 in
theorem hk_Md_hires : HdOk h_Md_hires 4 := ⟨InT.of 968 rfl rfl, InT.of 59 rfl rfl, by decide, by decide, by decide +kernel⟩
set_option maxRecDepth 100000 in
theorem hi_Md_hires : InT (.instanceMethod (hY h_Md_hires)) := InT.of 967 rfl rfl
set_option maxRecDepth 100000 in
theorem hv_Md_hires : InT (.selects (hY h_Md_hires).cls (hY h_Md_hires) (hY h_Md_hires)) := InT.of 10 rfl rfl
def h_Md_in : Hd := (⟨"NurseryPlacesModel", "in", "(III)Z"⟩, prog_12_method_3_code, 3, (some .boolean), 0, 0, 3)
set_option maxRecDepth 100000 in
theorem hk_Md_in : HdOk h_Md_in 3 := ⟨InT.of 945 rfl rfl, InT.of 59 rfl rfl, by decide, by decide, by decide +kernel⟩
set_option maxRecDepth 100000 in
theorem hs_Md_in : InT (.static (hY h_Md_in)) := InT.of 944 rfl rfl
def h_Md_keep : Hd := (⟨"NurseryPlacesModel", "keep", "()V"⟩, prog_12_method_6_code, 2, none, 0, 0, 1)
set_option maxRecDepth 100000 in
theorem hk_Md_keep : HdOk h_Md_keep 0 := ⟨InT.of 1157 rfl rfl, InT.of 59 rfl rfl, by decide, by decide, by decide +kernel⟩
set_option maxRecDepth 100000 in
theorem hi_Md_keep : InT (.instanceMethod (hY h_Md_keep)) := InT.of 1156 rfl rfl
set_option maxRecDepth 100000 in
theorem hv_Md_keep : InT (.selects (hY h_Md_keep).cls (hY h_Md_keep) (hY h_Md_keep)) := InT.of 40 rfl rfl
def h_Md_of : Hd := (⟨"NurseryPlacesModel", "of", "(II)I"⟩, prog_12_method_13_code, 3, (some .int), 0, 0, 3)
set_option maxRecDepth 100000 in
theorem hk_Md_of : HdOk h_Md_of 2 := ⟨InT.of 988 rfl rfl, InT.of 59 rfl rfl, by decide, by decide, by decide +kernel⟩
set_option maxRecDepth 100000 in
theorem hi_Md_of : InT (.instanceMethod (hY h_Md_of)) := InT.of 987 rfl rfl
set_option maxRecDepth 100000 in
theorem hv_Md_of : InT (.selects (hY h_Md_of).cls (hY h_Md_of) (hY h_Md_of)) := InT.of 13 rfl rfl
def h_Md_ones : Hd := (⟨"NurseryPlacesModel", "ones", "(I)I"⟩, prog_12_method_5_code, 3, (some .int), 0, 0, 1)
set_option maxRecDepth 100000 in
theorem hk_Md_ones : HdOk h_Md_ones 1 := ⟨InT.of 999 rfl rfl, InT.of 59 rfl rfl, by decide, by decide, by decide +kernel⟩
set_option maxRecDepth 100000 in
theorem hs_Md_ones : InT (.static (hY h_Md_ones)) := InT.of 998 rfl rfl
def h_Md_put3 : Hd := (⟨"NurseryPlacesModel", "put", "(III)V"⟩, prog_12_method_14_code, 4, none, 0, 0, 4)
set_option maxRecDepth 100000 in
theorem hk_Md_put3 : HdOk h_Md_put3 3 := ⟨InT.of 976 rfl rfl, InT.of 59 rfl rfl, by decide, by decide, by decide +kernel⟩
set_option maxRecDepth 100000 in
theorem hi_Md_put3 : InT (.instanceMethod (hY h_Md_put3)) := InT.of 975 rfl rfl
set_option maxRecDepth 100000 in
theorem hv_Md_put3 : InT (.selects (hY h_Md_put3).cls (hY h_Md_put3) (hY h_Md_put3)) := InT.of 11 rfl rfl
def h_Md_record : Hd := (⟨"NurseryPlacesModel", "record", "()V"⟩, prog_12_method_8_code, 2, none, 0, 0, 1)
set_option maxRecDepth 100000 in
theorem hk_Md_record : HdOk h_Md_record 0 := ⟨InT.of 949 rfl rfl, InT.of 59 rfl rfl, by decide, by decide, by decide +kernel⟩
set_option maxRecDepth 100000 in
theorem hi_Md_record : InT (.instanceMethod (hY h_Md_record)) := InT.of 948 rfl rfl
set_option maxRecDepth 100000 in
theorem hv_Md_record : InT (.selects (hY h_Md_record).cls (hY h_Md_record) (hY h_Md_record)) := InT.of 8 rfl rfl
def h_Md_sign : Hd := (⟨"NurseryPlacesModel", "sign", "(I)Z"⟩, prog_12_method_68_code, 3, (some .boolean), 0, 0, 2)
set_option maxRecDepth 100000 in
theorem hk_Md_sign : HdOk h_Md_sign 1 := ⟨InT.of 1214 rfl rfl, InT.of 59 rfl rfl, by decide, by decide, by decide +kernel⟩
set_option maxRecDepth 100000 in
theorem hi_Md_sign : InT (.instanceMethod (hY h_Md_sign)) := InT.of 1213 rfl rfl
set_option maxRecDepth 100000 in
theorem hv_Md_sign : InT (.selects (hY h_Md_sign).cls (hY h_Md_sign) (hY h_Md_sign)) := InT.of 47 rfl rfl
def h_Md_undo : Hd := (⟨"NurseryPlacesModel", "undo", "()I"⟩, prog_12_method_77_code, 2, (some .int), 0, 0, 1)
set_option maxRecDepth 100000 in
theorem hk_Md_undo : HdOk h_Md_undo 0 := ⟨InT.of 1240 rfl rfl, InT.of 59 rfl rfl, by decide, by decide, by decide +kernel⟩
set_option maxRecDepth 100000 in
theorem hi_Md_undo : InT (.instanceMethod (hY h_Md_undo)) := InT.of 1238 rfl rfl
set_option maxRecDepth 100000 in
theorem hv_Md_undo : InT (.selects (hY h_Md_undo).cls (hY h_Md_undo) (hY h_Md_undo)) := InT.of 1239 rfl rfl
def h_Md_wipe : Hd := (⟨"NurseryPlacesModel", "wipe", "()I"⟩, prog_12_method_67_code, 2, (some .int), 0, 0, 1)
set_option maxRecDepth 100000 in
theorem hk_Md_wipe : HdOk h_Md_wipe 0 := ⟨InT.of 1194 rfl rfl, InT.of 59 rfl rfl, by decide, by decide, by decide +kernel⟩
set_option maxRecDepth 100000 in
theorem hi_Md_wipe : InT (.instanceMethod (hY h_Md_wipe)) := InT.of 1192 rfl rfl
set_option maxRecDepth 100000 in
theorem hv_Md_wipe : InT (.selects (hY h_Md_wipe).cls (hY h_Md_wipe) (hY h_Md_wipe)) := InT.of 1193 rfl rfl
def h_Mth_max : Hd := (⟨"java/lang/Math", "max", "(II)I"⟩, prog_14_method_65_code, 2, (some .int), 0, 0, 2)
set_option maxRecDepth 100000 in
theorem hk_Mth_max : HdOk h_Mth_max 2 := ⟨InT.of 627 rfl rfl, InT.of 63 rfl rfl, by decide, by decide, by decide +kernel⟩
set_option maxRecDepth 100000 in
theorem hs_Mth_max : InT (.static (hY h_Mth_max)) := InT.of 626 rfl rfl
def h_Mth_min : Hd := (⟨"java/lang/Math", "min", "(II)I"⟩, prog_14_method_69_code, 2, (some .int), 0, 0, 2)
set_option maxRecDepth 100000 in
theorem hk_Mth_min : HdOk h_Mth_min 2 := ⟨InT.of 537 rfl rfl, InT.of 63 rfl rfl, by decide, by decide, by decide +kernel⟩
set_option maxRecDepth 100000 in
theorem hs_Mth_min : InT (.static (hY h_Mth_min)) := InT.of 536 rfl rfl
def h_N_holds : Hd := (⟨"NurseryPlaces", "holds", "(II)Z"⟩, prog_1_method_36_code, 2, (some .boolean), 0, 0, 2)
set_option maxRecDepth 100000 in
theorem hk_N_holds : HdOk h_N_holds 2 := ⟨InT.of 518 rfl rfl, InT.of 52 rfl rfl, by decide, by decide, by decide +kernel⟩
set_option maxRecDepth 100000 in
theorem hs_N_holds : InT (.static (hY h_N_holds)) := InT.of 517 rfl rfl
def h_N_isWithin : Hd := (⟨"NurseryPlaces", "isWithin", "(III)Z"⟩, prog_1_method_32_code, 3, (some .boolean), 0, 0, 3)
set_option maxRecDepth 100000 in
theorem hk_N_isWithin : HdOk h_N_isWithin 3 := ⟨InT.of 408 rfl rfl, InT.of 52 rfl rfl, by decide, by decide, by decide +kernel⟩
set_option maxRecDepth 100000 in
theorem hs_N_isWithin : InT (.static (hY h_N_isWithin)) := InT.of 407 rfl rfl
def h_Pd_clear : Hd := (⟨"NurseryPlaces$Pad", "clear", "()I"⟩, prog_6_method_4_code, 2, (some .int), 0, 0, 1)
set_option maxRecDepth 100000 in
theorem hk_Pd_clear : HdOk h_Pd_clear 0 := ⟨InT.of 757 rfl rfl, InT.of 58 rfl rfl, by decide, by decide, by decide +kernel⟩
set_option maxRecDepth 100000 in
theorem hi_Pd_clear : InT (.instanceMethod (hY h_Pd_clear)) := InT.of 755 rfl rfl
set_option maxRecDepth 100000 in
theorem hv_Pd_clear : InT (.selects (hY h_Pd_clear).cls (hY h_Pd_clear) (hY h_Pd_clear)) := InT.of 756 rfl rfl
def h_Pd_formOf : Hd := (⟨"NurseryPlaces$Pad", "formOf", "(C)Ljava/lang/String;"⟩, prog_6_method_9_code, 1, (some (.object "java/lang/String")), 0, 0, 1)
set_option maxRecDepth 100000 in
theorem hk_Pd_formOf : HdOk h_Pd_formOf 1 := ⟨InT.of 776 rfl rfl, InT.of 58 rfl rfl, by decide, by decide, by decide +kernel⟩
set_option maxRecDepth 100000 in
theorem hs_Pd_formOf : InT (.static (hY h_Pd_formOf)) := InT.of 775 rfl rfl
def h_Pd_keepNumber : Hd := (⟨"NurseryPlaces$Pad", "keepNumber", "(I)V"⟩, prog_6_method_15_code, 2, none, 0, 0, 2)
set_option maxRecDepth 100000 in
theorem hk_Pd_keepNumber : HdOk h_Pd_keepNumber 1 := ⟨InT.of 845 rfl rfl, InT.of 58 rfl rfl, by decide, by decide, by decide +kernel⟩
set_option maxRecDepth 100000 in
theorem hi_Pd_keepNumber : InT (.instanceMethod (hY h_Pd_keepNumber)) := InT.of 844 rfl rfl
set_option maxRecDepth 100000 in
theorem hv_Pd_keepNumber : InT (.selects (hY h_Pd_keepNumber).cls (hY h_Pd_keepNumber) (hY h_Pd_keepNumber)) := InT.of 4 rfl rfl
def h_Pd_readSign : Hd := (⟨"NurseryPlaces$Pad", "readSign", "(C)Z"⟩, prog_6_method_11_code, 2, (some .boolean), 0, 0, 2)
set_option maxRecDepth 100000 in
theorem hk_Pd_readSign : HdOk h_Pd_readSign 1 := ⟨InT.of 853 rfl rfl, InT.of 58 rfl rfl, by decide, by decide, by decide +kernel⟩
set_option maxRecDepth 100000 in
theorem hi_Pd_readSign : InT (.instanceMethod (hY h_Pd_readSign)) := InT.of 852 rfl rfl
set_option maxRecDepth 100000 in
theorem hv_Pd_readSign : InT (.selects (hY h_Pd_readSign).cls (hY h_Pd_readSign) (hY h_Pd_readSign)) := InT.of 6 rfl rfl
def h_Pd_rewind : Hd := (⟨"NurseryPlaces$Pad", "rewind", "()V"⟩, prog_6_method_5_code, 1, none, 0, 0, 1)
set_option maxRecDepth 100000 in
theorem hk_Pd_rewind : HdOk h_Pd_rewind 0 := ⟨InT.of 769 rfl rfl, InT.of 58 rfl rfl, by decide, by decide, by decide +kernel⟩
set_option maxRecDepth 100000 in
theorem hi_Pd_rewind : InT (.instanceMethod (hY h_Pd_rewind)) := InT.of 767 rfl rfl
set_option maxRecDepth 100000 in
theorem hv_Pd_rewind : InT (.selects (hY h_Pd_rewind).cls (hY h_Pd_rewind) (hY h_Pd_rewind)) := InT.of 768 rfl rfl
def h_Pre_checkIndex : Hd := (⟨"jdk/internal/util/Preconditions", "checkIndex", "(IILjava/util/function/BiFunction;)I"⟩, prog_19_method_11_code, 3, (some .int), 0, 0, 3)
set_option maxRecDepth 100000 in
theorem hk_Pre_checkIndex : HdOk h_Pre_checkIndex 3 := ⟨InT.of 810 rfl rfl, InT.of 68 rfl rfl, by decide, by decide, by decide +kernel⟩
set_option maxRecDepth 100000 in
theorem hs_Pre_checkIndex : InT (.static (hY h_Pre_checkIndex)) := InT.of 809 rfl rfl
def h_Rm_copyFrom : Hd := (⟨"NurseryPlaces$Room", "copyFrom", "(LNurseryPlaces$Room;)V"⟩, prog_7_method_2_code, 2, none, 0, 0, 2)
set_option maxRecDepth 100000 in
theorem hk_Rm_copyFrom : HdOk h_Rm_copyFrom 1 := ⟨InT.of 393 rfl rfl, InT.of 54 rfl rfl, by decide, by decide, by decide +kernel⟩
set_option maxRecDepth 100000 in
theorem hi_Rm_copyFrom : InT (.instanceMethod (hY h_Rm_copyFrom)) := InT.of 391 rfl rfl
set_option maxRecDepth 100000 in
theorem hv_Rm_copyFrom : InT (.selects (hY h_Rm_copyFrom).cls (hY h_Rm_copyFrom) (hY h_Rm_copyFrom)) := InT.of 392 rfl rfl
def h_Rm_isFor : Hd := (⟨"NurseryPlaces$Room", "isFor", "(I)Z"⟩, prog_7_method_3_code, 2, (some .boolean), 0, 0, 2)
set_option maxRecDepth 100000 in
theorem hk_Rm_isFor : HdOk h_Rm_isFor 1 := ⟨InT.of 511 rfl rfl, InT.of 54 rfl rfl, by decide, by decide, by decide +kernel⟩
set_option maxRecDepth 100000 in
theorem hi_Rm_isFor : InT (.instanceMethod (hY h_Rm_isFor)) := InT.of 509 rfl rfl
set_option maxRecDepth 100000 in
theorem hv_Rm_isFor : InT (.selects (hY h_Rm_isFor).cls (hY h_Rm_isFor) (hY h_Rm_isFor)) := InT.of 510 rfl rfl
def h_St_carersOf : Hd := (⟨"NurseryPlaces$State", "carersOf", "(I)I"⟩, prog_9_method_19_code, 4, (some .int), 0, 0, 2)
set_option maxRecDepth 100000 in
theorem hk_St_carersOf : HdOk h_St_carersOf 1 := ⟨InT.of 670 rfl rfl, InT.of 53 rfl rfl, by decide, by decide, by decide +kernel⟩
set_option maxRecDepth 100000 in
theorem hi_St_carersOf : InT (.instanceMethod (hY h_St_carersOf)) := InT.of 668 rfl rfl
set_option maxRecDepth 100000 in
theorem hv_St_carersOf : InT (.selects (hY h_St_carersOf).cls (hY h_St_carersOf) (hY h_St_carersOf)) := InT.of 669 rfl rfl
def h_St_childrenInState : Hd := (⟨"NurseryPlaces$State", "childrenInState", "(I)I"⟩, prog_9_method_21_code, 4, (some .int), 0, 0, 2)
set_option maxRecDepth 100000 in
theorem hk_St_childrenInState : HdOk h_St_childrenInState 1 := ⟨InT.of 481 rfl rfl, InT.of 53 rfl rfl, by decide, by decide, by decide +kernel⟩
set_option maxRecDepth 100000 in
theorem hi_St_childrenInState : InT (.instanceMethod (hY h_St_childrenInState)) := InT.of 479 rfl rfl
set_option maxRecDepth 100000 in
theorem hv_St_childrenInState : InT (.selects (hY h_St_childrenInState).cls (hY h_St_childrenInState) (hY h_St_childrenInState)) := InT.of 480 rfl rfl
def h_St_childrenOf : Hd := (⟨"NurseryPlaces$State", "childrenOf", "(I)I"⟩, prog_9_method_20_code, 4, (some .int), 0, 0, 2)
set_option maxRecDepth 100000 in
theorem hk_St_childrenOf : HdOk h_St_childrenOf 1 := ⟨InT.of 674 rfl rfl, InT.of 53 rfl rfl, by decide, by decide, by decide +kernel⟩
set_option maxRecDepth 100000 in
theorem hi_St_childrenOf : InT (.instanceMethod (hY h_St_childrenOf)) := InT.of 672 rfl rfl
set_option maxRecDepth 100000 in
theorem hv_St_childrenOf : InT (.selects (hY h_St_childrenOf).cls (hY h_St_childrenOf) (hY h_St_childrenOf)) := InT.of 673 rfl rfl
def h_St_hasCarer : Hd := (⟨"NurseryPlaces$State", "hasCarer", "(I)Z"⟩, prog_9_method_4_code, 2, (some .boolean), 0, 0, 2)
set_option maxRecDepth 100000 in
theorem hk_St_hasCarer : HdOk h_St_hasCarer 1 := ⟨InT.of 597 rfl rfl, InT.of 53 rfl rfl, by decide, by decide, by decide +kernel⟩
set_option maxRecDepth 100000 in
theorem hi_St_hasCarer : InT (.instanceMethod (hY h_St_hasCarer)) := InT.of 595 rfl rfl
set_option maxRecDepth 100000 in
theorem hv_St_hasCarer : InT (.selects (hY h_St_hasCarer).cls (hY h_St_hasCarer) (hY h_St_hasCarer)) := InT.of 596 rfl rfl
def h_St_hasChild : Hd := (⟨"NurseryPlaces$State", "hasChild", "(I)Z"⟩, prog_9_method_5_code, 2, (some .boolean), 0, 0, 2)
set_option maxRecDepth 100000 in
theorem hk_St_hasChild : HdOk h_St_hasChild 1 := ⟨InT.of 476 rfl rfl, InT.of 53 rfl rfl, by decide, by decide, by decide +kernel⟩
set_option maxRecDepth 100000 in
theorem hi_St_hasChild : InT (.instanceMethod (hY h_St_hasChild)) := InT.of 474 rfl rfl
set_option maxRecDepth 100000 in
theorem hv_St_hasChild : InT (.selects (hY h_St_hasChild).cls (hY h_St_hasChild) (hY h_St_hasChild)) := InT.of 475 rfl rfl
def h_St_hasRoom : Hd := (⟨"NurseryPlaces$State", "hasRoom", "(I)Z"⟩, prog_9_method_3_code, 2, (some .boolean), 0, 0, 2)
set_option maxRecDepth 100000 in
theorem hk_St_hasRoom : HdOk h_St_hasRoom 1 := ⟨InT.of 436 rfl rfl, InT.of 53 rfl rfl, by decide, by decide, by decide +kernel⟩
set_option maxRecDepth 100000 in
theorem hi_St_hasRoom : InT (.instanceMethod (hY h_St_hasRoom)) := InT.of 434 rfl rfl
set_option maxRecDepth 100000 in
theorem hv_St_hasRoom : InT (.selects (hY h_St_hasRoom).cls (hY h_St_hasRoom) (hY h_St_hasRoom)) := InT.of 435 rfl rfl
def h_St_hire : Hd := (⟨"NurseryPlaces$State", "hire", "(IIII)I"⟩, prog_9_method_9_code, 6, (some .int), 0, 0, 5)
set_option maxRecDepth 100000 in
theorem hk_St_hire : HdOk h_St_hire 4 := ⟨InT.of 444 rfl rfl, InT.of 53 rfl rfl, by decide, by decide, by decide +kernel⟩
set_option maxRecDepth 100000 in
theorem hi_St_hire : InT (.instanceMethod (hY h_St_hire)) := InT.of 442 rfl rfl
set_option maxRecDepth 100000 in
theorem hv_St_hire : InT (.selects (hY h_St_hire).cls (hY h_St_hire) (hY h_St_hire)) := InT.of 443 rfl rfl
def h_St_plannedVisits : Hd := (⟨"NurseryPlaces$State", "plannedVisits", "()I"⟩, prog_9_method_23_code, 3, (some .int), 0, 0, 1)
set_option maxRecDepth 100000 in
theorem hk_St_plannedVisits : HdOk h_St_plannedVisits 0 := ⟨InT.of 563 rfl rfl, InT.of 53 rfl rfl, by decide, by decide, by decide +kernel⟩
set_option maxRecDepth 100000 in
theorem hi_St_plannedVisits : InT (.instanceMethod (hY h_St_plannedVisits)) := InT.of 561 rfl rfl
set_option maxRecDepth 100000 in
theorem hv_St_plannedVisits : InT (.selects (hY h_St_plannedVisits).cls (hY h_St_plannedVisits) (hY h_St_plannedVisits)) := InT.of 562 rfl rfl
def h_St_settledChildren : Hd := (⟨"NurseryPlaces$State", "settledChildren", "()I"⟩, prog_9_method_22_code, 3, (some .int), 0, 0, 1)
set_option maxRecDepth 100000 in
theorem hk_St_settledChildren : HdOk h_St_settledChildren 0 := ⟨InT.of 693 rfl rfl, InT.of 53 rfl rfl, by decide, by decide, by decide +kernel⟩
set_option maxRecDepth 100000 in
theorem hi_St_settledChildren : InT (.instanceMethod (hY h_St_settledChildren)) := InT.of 691 rfl rfl
set_option maxRecDepth 100000 in
theorem hv_St_settledChildren : InT (.selects (hY h_St_settledChildren).cls (hY h_St_settledChildren) (hY h_St_settledChildren)) := InT.of 692 rfl rfl
def h_Str_coder : Hd := (⟨"java/lang/String", "coder", "()B"⟩, prog_15_method_152_code, 1, (some .byte), 0, 0, 1)
set_option maxRecDepth 100000 in
theorem hk_Str_coder : HdOk h_Str_coder 0 := ⟨InT.of 789 rfl rfl, InT.of 66 rfl rfl, by decide, by decide, by decide +kernel⟩
set_option maxRecDepth 100000 in
theorem hi_Str_coder : InT (.instanceMethod (hY h_Str_coder)) := InT.of 787 rfl rfl
set_option maxRecDepth 100000 in
theorem hv_Str_coder : InT (.selects (hY h_Str_coder).cls (hY h_Str_coder) (hY h_Str_coder)) := InT.of 788 rfl rfl
def h_Str_isLatin1 : Hd := (⟨"java/lang/String", "isLatin1", "()Z"⟩, prog_15_method_154_code, 1, (some .boolean), 0, 0, 1)
set_option maxRecDepth 100000 in
theorem hk_Str_isLatin1 : HdOk h_Str_isLatin1 0 := ⟨InT.of 799 rfl rfl, InT.of 66 rfl rfl, by decide, by decide, by decide +kernel⟩
set_option maxRecDepth 100000 in
theorem hi_Str_isLatin1 : InT (.instanceMethod (hY h_Str_isLatin1)) := InT.of 797 rfl rfl
set_option maxRecDepth 100000 in
theorem hv_Str_isLatin1 : InT (.selects (hY h_Str_isLatin1).cls (hY h_Str_isLatin1) (hY h_Str_isLatin1)) := InT.of 798 rfl rfl
def h_Wk_beginWeek : Hd := (⟨"NurseryPlaces$Week", "beginWeek", "(LNurseryPlaces$State;)V"⟩, prog_10_method_12_code, 3, none, 0, 0, 1)
set_option maxRecDepth 100000 in
theorem hk_Wk_beginWeek : HdOk h_Wk_beginWeek 1 := ⟨InT.of 644 rfl rfl, InT.of 65 rfl rfl, by decide, by decide, by decide +kernel⟩
set_option maxRecDepth 100000 in
theorem hs_Wk_beginWeek : InT (.static (hY h_Wk_beginWeek)) := InT.of 643 rfl rfl
def h_Wk_feeFor : Hd := (⟨"NurseryPlaces$Week", "feeFor", "(LNurseryPlaces$State;I)I"⟩, prog_10_method_10_code, 6, (some .int), 0, 0, 2)
set_option maxRecDepth 100000 in
theorem hk_Wk_feeFor : HdOk h_Wk_feeFor 2 := ⟨InT.of 638 rfl rfl, InT.of 65 rfl rfl, by decide, by decide, by decide +kernel⟩
set_option maxRecDepth 100000 in
theorem hs_Wk_feeFor : InT (.static (hY h_Wk_feeFor)) := InT.of 637 rfl rfl
def h_Wk_settle : Hd := (⟨"NurseryPlaces$Week", "settle", "(LNurseryPlaces$State;)V"⟩, prog_10_method_11_code, 3, none, 0, 0, 1)
set_option maxRecDepth 100000 in
theorem hk_Wk_settle : HdOk h_Wk_settle 1 := ⟨InT.of 641 rfl rfl, InT.of 65 rfl rfl, by decide, by decide, by decide +kernel⟩
set_option maxRecDepth 100000 in
theorem hs_Wk_settle : InT (.static (hY h_Wk_settle)) := InT.of 640 rfl rfl
def h_Ch_comesTo : Hd := (⟨"NurseryPlaces$Child", "comesTo", "(I)Z"⟩, prog_4_method_7_code, 2, (some .boolean), 1, 21, 2)
set_option maxRecDepth 100000 in
theorem hk_Ch_comesTo : HdOk h_Ch_comesTo 1 := ⟨InT.of 618 rfl rfl, InT.of 56 rfl rfl, by decide, by decide, by decide +kernel⟩
set_option maxRecDepth 100000 in
theorem hi_Ch_comesTo : InT (.instanceMethod (hY h_Ch_comesTo)) := InT.of 616 rfl rfl
set_option maxRecDepth 100000 in
theorem hv_Ch_comesTo : InT (.selects (hY h_Ch_comesTo).cls (hY h_Ch_comesTo) (hY h_Ch_comesTo)) := InT.of 617 rfl rfl
def h_Ch_waitAgain : Hd := (⟨"NurseryPlaces$Child", "waitAgain", "(I)V"⟩, prog_4_method_4_code, 2, none, 1, 21, 2)
set_option maxRecDepth 100000 in
theorem hk_Ch_waitAgain : HdOk h_Ch_waitAgain 1 := ⟨InT.of 460 rfl rfl, InT.of 56 rfl rfl, by decide, by decide, by decide +kernel⟩
set_option maxRecDepth 100000 in
theorem hi_Ch_waitAgain : InT (.instanceMethod (hY h_Ch_waitAgain)) := InT.of 458 rfl rfl
set_option maxRecDepth 100000 in
theorem hv_Ch_waitAgain : InT (.selects (hY h_Ch_waitAgain).cls (hY h_Ch_waitAgain) (hY h_Ch_waitAgain)) := InT.of 459 rfl rfl
def h_Md_becomes : Hd := (⟨"NurseryPlacesModel", "becomes", "(II)V"⟩, prog_12_method_29_code, 3, none, 1, 23, 3)
set_option maxRecDepth 100000 in
theorem hk_Md_becomes : HdOk h_Md_becomes 2 := ⟨InT.of 992 rfl rfl, InT.of 59 rfl rfl, by decide, by decide, by decide +kernel⟩
set_option maxRecDepth 100000 in
theorem hi_Md_becomes : InT (.instanceMethod (hY h_Md_becomes)) := InT.of 991 rfl rfl
set_option maxRecDepth 100000 in
theorem hv_Md_becomes : InT (.selects (hY h_Md_becomes).cls (hY h_Md_becomes) (hY h_Md_becomes)) := InT.of 14 rfl rfl
def h_Md_carersAt : Hd := (⟨"NurseryPlacesModel", "carersAt", "(IIIZ)I"⟩, prog_12_method_15_code, 9, (some .int), 1, 22, 5)
set_option maxRecDepth 100000 in
theorem hk_Md_carersAt : HdOk h_Md_carersAt 4 := ⟨InT.of 1046 rfl rfl, InT.of 59 rfl rfl, by decide, by decide, by decide +kernel⟩
set_option maxRecDepth 100000 in
theorem hi_Md_carersAt : InT (.instanceMethod (hY h_Md_carersAt)) := InT.of 1045 rfl rfl
set_option maxRecDepth 100000 in
theorem hv_Md_carersAt : InT (.selects (hY h_Md_carersAt).cls (hY h_Md_carersAt) (hY h_Md_carersAt)) := InT.of 25 rfl rfl
def h_Md_child : Hd := (⟨"NurseryPlacesModel", "child", "(III)I"⟩, prog_12_method_27_code, 6, (some .int), 1, 23, 4)
set_option maxRecDepth 100000 in
theorem hk_Md_child : HdOk h_Md_child 3 := ⟨InT.of 972 rfl rfl, InT.of 59 rfl rfl, by decide, by decide, by decide +kernel⟩
set_option maxRecDepth 100000 in
theorem hi_Md_child : InT (.instanceMethod (hY h_Md_child)) := InT.of 970 rfl rfl
set_option maxRecDepth 100000 in
theorem hv_Md_child : InT (.selects (hY h_Md_child).cls (hY h_Md_child) (hY h_Md_child)) := InT.of 971 rfl rfl
def h_Md_digit : Hd := (⟨"NurseryPlacesModel", "digit", "(I)Z"⟩, prog_12_method_70_code, 3, (some .boolean), 1, 22, 2)
set_option maxRecDepth 100000 in
theorem hk_Md_digit : HdOk h_Md_digit 1 := ⟨InT.of 1222 rfl rfl, InT.of 59 rfl rfl, by decide, by decide, by decide +kernel⟩
set_option maxRecDepth 100000 in
theorem hi_Md_digit : InT (.instanceMethod (hY h_Md_digit)) := InT.of 1221 rfl rfl
set_option maxRecDepth 100000 in
theorem hv_Md_digit : InT (.selects (hY h_Md_digit).cls (hY h_Md_digit) (hY h_Md_digit)) := InT.of 49 rfl rfl
def h_Md_hasSibling : Hd := (⟨"NurseryPlacesModel", "hasSibling", "(I)Z"⟩, prog_12_method_32_code, 4, (some .boolean), 1, 22, 2)
set_option maxRecDepth 100000 in
theorem hk_Md_hasSibling : HdOk h_Md_hasSibling 1 := ⟨InT.of 1050 rfl rfl, InT.of 59 rfl rfl, by decide, by decide, by decide +kernel⟩
set_option maxRecDepth 100000 in
theorem hi_Md_hasSibling : InT (.instanceMethod (hY h_Md_hasSibling)) := InT.of 1049 rfl rfl
set_option maxRecDepth 100000 in
theorem hv_Md_hasSibling : InT (.selects (hY h_Md_hasSibling).cls (hY h_Md_hasSibling) (hY h_Md_hasSibling)) := InT.of 26 rfl rfl
def h_Md_inState : Hd := (⟨"NurseryPlacesModel", "inState", "(I)I"⟩, prog_12_method_28_code, 4, (some .int), 1, 22, 2)
set_option maxRecDepth 100000 in
theorem hk_Md_inState : HdOk h_Md_inState 1 := ⟨InT.of 996 rfl rfl, InT.of 59 rfl rfl, by decide, by decide, by decide +kernel⟩
set_option maxRecDepth 100000 in
theorem hi_Md_inState : InT (.instanceMethod (hY h_Md_inState)) := InT.of 995 rfl rfl
set_option maxRecDepth 100000 in
theorem hv_Md_inState : InT (.selects (hY h_Md_inState).cls (hY h_Md_inState) (hY h_Md_inState)) := InT.of 15 rfl rfl
def h_Md_isCarer : Hd := (⟨"NurseryPlacesModel", "isCarer", "(I)Z"⟩, prog_12_method_10_code, 2, (some .boolean), 1, 22, 2)
set_option maxRecDepth 100000 in
theorem hk_Md_isCarer : HdOk h_Md_isCarer 1 := ⟨InT.of 1085 rfl rfl, InT.of 59 rfl rfl, by decide, by decide, by decide +kernel⟩
set_option maxRecDepth 100000 in
theorem hi_Md_isCarer : InT (.instanceMethod (hY h_Md_isCarer)) := InT.of 1084 rfl rfl
set_option maxRecDepth 100000 in
theorem hv_Md_isCarer : InT (.selects (hY h_Md_isCarer).cls (hY h_Md_isCarer) (hY h_Md_isCarer)) := InT.of 30 rfl rfl
def h_Md_isChild : Hd := (⟨"NurseryPlacesModel", "isChild", "(I)Z"⟩, prog_12_method_11_code, 2, (some .boolean), 1, 22, 2)
set_option maxRecDepth 100000 in
theorem hk_Md_isChild : HdOk h_Md_isChild 1 := ⟨InT.of 984 rfl rfl, InT.of 59 rfl rfl, by decide, by decide, by decide +kernel⟩
set_option maxRecDepth 100000 in
theorem hi_Md_isChild : InT (.instanceMethod (hY h_Md_isChild)) := InT.of 983 rfl rfl
set_option maxRecDepth 100000 in
theorem hv_Md_isChild : InT (.selects (hY h_Md_isChild).cls (hY h_Md_isChild) (hY h_Md_isChild)) := InT.of 12 rfl rfl
def h_Md_isIn : Hd := (⟨"NurseryPlacesModel", "isIn", "(II)Z"⟩, prog_12_method_17_code, 3, (some .boolean), 1, 22, 3)
set_option maxRecDepth 100000 in
theorem hk_Md_isIn : HdOk h_Md_isIn 2 := ⟨InT.of 1038 rfl rfl, InT.of 59 rfl rfl, by decide, by decide, by decide +kernel⟩
set_option maxRecDepth 100000 in
theorem hi_Md_isIn : InT (.instanceMethod (hY h_Md_isIn)) := InT.of 1037 rfl rfl
set_option maxRecDepth 100000 in
theorem hv_Md_isIn : InT (.selects (hY h_Md_isIn).cls (hY h_Md_isIn) (hY h_Md_isIn)) := InT.of 23 rfl rfl
def h_Md_isRoom : Hd := (⟨"NurseryPlacesModel", "isRoom", "(I)Z"⟩, prog_12_method_9_code, 2, (some .boolean), 1, 22, 2)
set_option maxRecDepth 100000 in
theorem hk_Md_isRoom : HdOk h_Md_isRoom 1 := ⟨InT.of 961 rfl rfl, InT.of 59 rfl rfl, by decide, by decide, by decide +kernel⟩
set_option maxRecDepth 100000 in
theorem hi_Md_isRoom : InT (.instanceMethod (hY h_Md_isRoom)) := InT.of 960 rfl rfl
set_option maxRecDepth 100000 in
theorem hv_Md_isRoom : InT (.selects (hY h_Md_isRoom).cls (hY h_Md_isRoom) (hY h_Md_isRoom)) := InT.of 9 rfl rfl
def h_Md_isSession : Hd := (⟨"NurseryPlacesModel", "isSession", "(I)Z"⟩, prog_12_method_12_code, 1, (some .boolean), 1, 22, 1)
set_option maxRecDepth 100000 in
theorem hk_Md_isSession : HdOk h_Md_isSession 1 := ⟨InT.of 1057 rfl rfl, InT.of 59 rfl rfl, by decide, by decide, by decide +kernel⟩
set_option maxRecDepth 100000 in
theorem hs_Md_isSession : InT (.static (hY h_Md_isSession)) := InT.of 1056 rfl rfl
def h_Md_isShift : Hd := (⟨"NurseryPlacesModel", "isShift", "(III)Z"⟩, prog_12_method_24_code, 3, (some .boolean), 1, 22, 3)
set_option maxRecDepth 100000 in
theorem hk_Md_isShift : HdOk h_Md_isShift 3 := ⟨InT.of 964 rfl rfl, InT.of 59 rfl rfl, by decide, by decide, by decide +kernel⟩
set_option maxRecDepth 100000 in
theorem hs_Md_isShift : InT (.static (hY h_Md_isShift)) := InT.of 963 rfl rfl
def h_Md_isVisiting : Hd := (⟨"NurseryPlacesModel", "isVisiting", "(II)Z"⟩, prog_12_method_44_code, 3, (some .boolean), 1, 22, 3)
set_option maxRecDepth 100000 in
theorem hk_Md_isVisiting : HdOk h_Md_isVisiting 2 := ⟨InT.of 1105 rfl rfl, InT.of 59 rfl rfl, by decide, by decide, by decide +kernel⟩
set_option maxRecDepth 100000 in
theorem hi_Md_isVisiting : InT (.instanceMethod (hY h_Md_isVisiting)) := InT.of 1104 rfl rfl
set_option maxRecDepth 100000 in
theorem hv_Md_isVisiting : InT (.selects (hY h_Md_isVisiting).cls (hY h_Md_isVisiting) (hY h_Md_isVisiting)) := InT.of 34 rfl rfl
def h_Md_number : Hd := (⟨"NurseryPlacesModel", "number", "(I)Z"⟩, prog_12_method_69_code, 4, (some .boolean), 1, 22, 2)
set_option maxRecDepth 100000 in
theorem hk_Md_number : HdOk h_Md_number 1 := ⟨InT.of 1210 rfl rfl, InT.of 59 rfl rfl, by decide, by decide, by decide +kernel⟩
set_option maxRecDepth 100000 in
theorem hi_Md_number : InT (.instanceMethod (hY h_Md_number)) := InT.of 1209 rfl rfl
set_option maxRecDepth 100000 in
theorem hv_Md_number : InT (.selects (hY h_Md_number).cls (hY h_Md_number) (hY h_Md_number)) := InT.of 46 rfl rfl
def h_Md_plannedMany : Hd := (⟨"NurseryPlacesModel", "plannedMany", "()I"⟩, prog_12_method_37_code, 3, (some .int), 1, 22, 1)
set_option maxRecDepth 100000 in
theorem hk_Md_plannedMany : HdOk h_Md_plannedMany 0 := ⟨InT.of 1065 rfl rfl, InT.of 59 rfl rfl, by decide, by decide, by decide +kernel⟩
set_option maxRecDepth 100000 in
theorem hi_Md_plannedMany : InT (.instanceMethod (hY h_Md_plannedMany)) := InT.of 1064 rfl rfl
set_option maxRecDepth 100000 in
theorem hv_Md_plannedMany : InT (.selects (hY h_Md_plannedMany).cls (hY h_Md_plannedMany) (hY h_Md_plannedMany)) := InT.of 28 rfl rfl
def h_Md_priceFor : Hd := (⟨"NurseryPlacesModel", "priceFor", "(I)I"⟩, prog_12_method_46_code, 4, (some .int), 1, 22, 2)
set_option maxRecDepth 100000 in
theorem hk_Md_priceFor : HdOk h_Md_priceFor 1 := ⟨InT.of 1113 rfl rfl, InT.of 59 rfl rfl, by decide, by decide, by decide +kernel⟩
set_option maxRecDepth 100000 in
theorem hi_Md_priceFor : InT (.instanceMethod (hY h_Md_priceFor)) := InT.of 1112 rfl rfl
set_option maxRecDepth 100000 in
theorem hv_Md_priceFor : InT (.selects (hY h_Md_priceFor).cls (hY h_Md_priceFor) (hY h_Md_priceFor)) := InT.of 36 rfl rfl
def h_Md_put : Hd := (⟨"NurseryPlacesModel", "put", "(J)I"⟩, prog_12_method_66_code, 8, (some .int), 1, 22, 2)
set_option maxRecDepth 100000 in
theorem hk_Md_put : HdOk h_Md_put 1 := ⟨InT.of 1189 rfl rfl, InT.of 59 rfl rfl, by decide, by decide, by decide +kernel⟩
set_option maxRecDepth 100000 in
theorem hi_Md_put : InT (.instanceMethod (hY h_Md_put)) := InT.of 1187 rfl rfl
set_option maxRecDepth 100000 in
theorem hv_Md_put : InT (.selects (hY h_Md_put).cls (hY h_Md_put) (hY h_Md_put)) := InT.of 1188 rfl rfl
def h_Md_restore : Hd := (⟨"NurseryPlacesModel", "restore", "(I)I"⟩, prog_12_method_79_code, 3, (some .int), 1, 22, 2)
set_option maxRecDepth 100000 in
theorem hk_Md_restore : HdOk h_Md_restore 1 := ⟨InT.of 1248 rfl rfl, InT.of 59 rfl rfl, by decide, by decide, by decide +kernel⟩
set_option maxRecDepth 100000 in
theorem hi_Md_restore : InT (.instanceMethod (hY h_Md_restore)) := InT.of 1246 rfl rfl
set_option maxRecDepth 100000 in
theorem hv_Md_restore : InT (.selects (hY h_Md_restore).cls (hY h_Md_restore) (hY h_Md_restore)) := InT.of 1247 rfl rfl
def h_Md_room : Hd := (⟨"NurseryPlacesModel", "room", "(IIII)I"⟩, prog_12_method_23_code, 6, (some .int), 1, 22, 5)
set_option maxRecDepth 100000 in
theorem hk_Md_room : HdOk h_Md_room 4 := ⟨InT.of 953 rfl rfl, InT.of 59 rfl rfl, by decide, by decide, by decide +kernel⟩
set_option maxRecDepth 100000 in
theorem hi_Md_room : InT (.instanceMethod (hY h_Md_room)) := InT.of 951 rfl rfl
set_option maxRecDepth 100000 in
theorem hv_Md_room : InT (.selects (hY h_Md_room).cls (hY h_Md_room) (hY h_Md_room)) := InT.of 952 rfl rfl
def h_Md_roomOf : Hd := (⟨"NurseryPlacesModel", "roomOf", "(I)I"⟩, prog_12_method_21_code, 4, (some .int), 1, 22, 2)
set_option maxRecDepth 100000 in
theorem hk_Md_roomOf : HdOk h_Md_roomOf 1 := ⟨InT.of 1019 rfl rfl, InT.of 59 rfl rfl, by decide, by decide, by decide +kernel⟩
set_option maxRecDepth 100000 in
theorem hi_Md_roomOf : InT (.instanceMethod (hY h_Md_roomOf)) := InT.of 1018 rfl rfl
set_option maxRecDepth 100000 in
theorem hv_Md_roomOf : InT (.selects (hY h_Md_roomOf).cls (hY h_Md_roomOf) (hY h_Md_roomOf)) := InT.of 19 rfl rfl
def h_Md_save : Hd := (⟨"NurseryPlacesModel", "save", "(I)I"⟩, prog_12_method_78_code, 3, (some .int), 1, 22, 2)
set_option maxRecDepth 100000 in
theorem hk_Md_save : HdOk h_Md_save 1 := ⟨InT.of 1244 rfl rfl, InT.of 59 rfl rfl, by decide, by decide, by decide +kernel⟩
set_option maxRecDepth 100000 in
theorem hi_Md_save : InT (.instanceMethod (hY h_Md_save)) := InT.of 1242 rfl rfl
set_option maxRecDepth 100000 in
theorem hv_Md_save : InT (.selects (hY h_Md_save).cls (hY h_Md_save) (hY h_Md_save)) := InT.of 1243 rfl rfl
def h_Md_set : Hd := (⟨"NurseryPlacesModel", "set", "(II)I"⟩, prog_12_method_22_code, 4, (some .int), 1, 22, 3)
set_option maxRecDepth 100000 in
theorem hk_Md_set : HdOk h_Md_set 2 := ⟨InT.of 942 rfl rfl, InT.of 59 rfl rfl, by decide, by decide, by decide +kernel⟩
set_option maxRecDepth 100000 in
theorem hi_Md_set : InT (.instanceMethod (hY h_Md_set)) := InT.of 940 rfl rfl
set_option maxRecDepth 100000 in
theorem hv_Md_set : InT (.selects (hY h_Md_set).cls (hY h_Md_set) (hY h_Md_set)) := InT.of 941 rfl rfl
def h_Md_settledSet : Hd := (⟨"NurseryPlacesModel", "settledSet", "()I"⟩, prog_12_method_55_code, 3, (some .int), 1, 22, 1)
set_option maxRecDepth 100000 in
theorem hk_Md_settledSet : HdOk h_Md_settledSet 0 := ⟨InT.of 1141 rfl rfl, InT.of 59 rfl rfl, by decide, by decide, by decide +kernel⟩
set_option maxRecDepth 100000 in
theorem hi_Md_settledSet : InT (.instanceMethod (hY h_Md_settledSet)) := InT.of 1140 rfl rfl
set_option maxRecDepth 100000 in
theorem hv_Md_settledSet : InT (.selects (hY h_Md_settledSet).cls (hY h_Md_settledSet) (hY h_Md_settledSet)) := InT.of 39 rfl rfl
def h_Md_settles : Hd := (⟨"NurseryPlacesModel", "settles", "(I)V"⟩, prog_12_method_48_code, 3, none, 1, 23, 2)
set_option maxRecDepth 100000 in
theorem hk_Md_settles : HdOk h_Md_settles 1 := ⟨InT.of 1117 rfl rfl, InT.of 59 rfl rfl, by decide, by decide, by decide +kernel⟩
set_option maxRecDepth 100000 in
theorem hi_Md_settles : InT (.instanceMethod (hY h_Md_settles)) := InT.of 1116 rfl rfl
set_option maxRecDepth 100000 in
theorem hv_Md_settles : InT (.selects (hY h_Md_settles).cls (hY h_Md_settles) (hY h_Md_settles)) := InT.of 37 rfl rfl
def h_N_count : Hd := (⟨"NurseryPlaces", "count", "(I)I"⟩, prog_1_method_16_code, 2, (some .int), 1, 23, 2)
set_option maxRecDepth 100000 in
theorem hk_N_count : HdOk h_N_count 1 := ⟨InT.of 688 rfl rfl, InT.of 52 rfl rfl, by decide, by decide, by decide +kernel⟩
set_option maxRecDepth 100000 in
theorem hi_N_count : InT (.instanceMethod (hY h_N_count)) := InT.of 686 rfl rfl
set_option maxRecDepth 100000 in
theorem hv_N_count : InT (.selects (hY h_N_count).cls (hY h_N_count) (hY h_N_count)) := InT.of 687 rfl rfl
def h_N_isSession : Hd := (⟨"NurseryPlaces", "isSession", "(I)Z"⟩, prog_1_method_33_code, 1, (some .boolean), 1, 22, 1)
set_option maxRecDepth 100000 in
theorem hk_N_isSession : HdOk h_N_isSession 1 := ⟨InT.of 553 rfl rfl, InT.of 52 rfl rfl, by decide, by decide, by decide +kernel⟩
set_option maxRecDepth 100000 in
theorem hs_N_isSession : InT (.static (hY h_N_isSession)) := InT.of 552 rfl rfl
def h_N_isShift : Hd := (⟨"NurseryPlaces", "isShift", "(III)Z"⟩, prog_1_method_35_code, 3, (some .boolean), 1, 22, 3)
set_option maxRecDepth 100000 in
theorem hk_N_isShift : HdOk h_N_isShift 3 := ⟨InT.of 439 rfl rfl, InT.of 52 rfl rfl, by decide, by decide, by decide +kernel⟩
set_option maxRecDepth 100000 in
theorem hs_N_isShift : InT (.static (hY h_N_isShift)) := InT.of 438 rfl rfl
def h_N_isSlot : Hd := (⟨"NurseryPlaces", "isSlot", "(I)Z"⟩, prog_1_method_34_code, 1, (some .boolean), 1, 22, 1)
set_option maxRecDepth 100000 in
theorem hk_N_isSlot : HdOk h_N_isSlot 1 := ⟨InT.of 882 rfl rfl, InT.of 52 rfl rfl, by decide, by decide, by decide +kernel⟩
set_option maxRecDepth 100000 in
theorem hs_N_isSlot : InT (.static (hY h_N_isSlot)) := InT.of 881 rfl rfl
def h_N_ofCarer : Hd := (⟨"NurseryPlaces", "ofCarer", "(II)I"⟩, prog_1_method_14_code, 4, (some .int), 1, 21, 3)
set_option maxRecDepth 100000 in
theorem hk_N_ofCarer : HdOk h_N_ofCarer 2 := ⟨InT.of 678 rfl rfl, InT.of 52 rfl rfl, by decide, by decide, by decide +kernel⟩
set_option maxRecDepth 100000 in
theorem hi_N_ofCarer : InT (.instanceMethod (hY h_N_ofCarer)) := InT.of 676 rfl rfl
set_option maxRecDepth 100000 in
theorem hv_N_ofCarer : InT (.selects (hY h_N_ofCarer).cls (hY h_N_ofCarer) (hY h_N_ofCarer)) := InT.of 677 rfl rfl
def h_N_ofChild : Hd := (⟨"NurseryPlaces", "ofChild", "(II)I"⟩, prog_1_method_15_code, 4, (some .int), 1, 21, 3)
set_option maxRecDepth 100000 in
theorem hk_N_ofChild : HdOk h_N_ofChild 2 := ⟨InT.of 683 rfl rfl, InT.of 52 rfl rfl, by decide, by decide, by decide +kernel⟩
set_option maxRecDepth 100000 in
theorem hi_N_ofChild : InT (.instanceMethod (hY h_N_ofChild)) := InT.of 681 rfl rfl
set_option maxRecDepth 100000 in
theorem hv_N_ofChild : InT (.selects (hY h_N_ofChild).cls (hY h_N_ofChild) (hY h_N_ofChild)) := InT.of 682 rfl rfl
def h_N_wipe : Hd := (⟨"NurseryPlaces", "wipe", "()I"⟩, prog_1_method_25_code, 1, (some .int), 1, 21, 1)
set_option maxRecDepth 100000 in
theorem hk_N_wipe : HdOk h_N_wipe 0 := ⟨InT.of 753 rfl rfl, InT.of 52 rfl rfl, by decide, by decide, by decide +kernel⟩
set_option maxRecDepth 100000 in
theorem hi_N_wipe : InT (.instanceMethod (hY h_N_wipe)) := InT.of 751 rfl rfl
set_option maxRecDepth 100000 in
theorem hv_N_wipe : InT (.selects (hY h_N_wipe).cls (hY h_N_wipe) (hY h_N_wipe)) := InT.of 752 rfl rfl
def h_Pd_countIn : Hd := (⟨"NurseryPlaces$Pad", "countIn", "(J)I"⟩, prog_6_method_3_code, 5, (some .int), 1, 22, 1)
set_option maxRecDepth 100000 in
theorem hk_Pd_countIn : HdOk h_Pd_countIn 1 := ⟨InT.of 747 rfl rfl, InT.of 58 rfl rfl, by decide, by decide, by decide +kernel⟩
set_option maxRecDepth 100000 in
theorem hs_Pd_countIn : InT (.static (hY h_Pd_countIn)) := InT.of 746 rfl rfl
def h_Pd_isAtDigit : Hd := (⟨"NurseryPlaces$Pad", "isAtDigit", "()Z"⟩, prog_6_method_14_code, 1, (some .boolean), 1, 22, 1)
set_option maxRecDepth 100000 in
theorem hk_Pd_isAtDigit : HdOk h_Pd_isAtDigit 0 := ⟨InT.of 841 rfl rfl, InT.of 58 rfl rfl, by decide, by decide, by decide +kernel⟩
set_option maxRecDepth 100000 in
theorem hi_Pd_isAtDigit : InT (.instanceMethod (hY h_Pd_isAtDigit)) := InT.of 840 rfl rfl
set_option maxRecDepth 100000 in
theorem hv_Pd_isAtDigit : InT (.selects (hY h_Pd_isAtDigit).cls (hY h_Pd_isAtDigit) (hY h_Pd_isAtDigit)) := InT.of 3 rfl rfl
def h_St_addRoom : Hd := (⟨"NurseryPlaces$State", "addRoom", "(IIII)I"⟩, prog_9_method_7_code, 6, (some .int), 1, 22, 5)
set_option maxRecDepth 100000 in
theorem hk_St_addRoom : HdOk h_St_addRoom 4 := ⟨InT.of 424 rfl rfl, InT.of 53 rfl rfl, by decide, by decide, by decide +kernel⟩
set_option maxRecDepth 100000 in
theorem hi_St_addRoom : InT (.instanceMethod (hY h_St_addRoom)) := InT.of 422 rfl rfl
set_option maxRecDepth 100000 in
theorem hv_St_addRoom : InT (.selects (hY h_St_addRoom).cls (hY h_St_addRoom) (hY h_St_addRoom)) := InT.of 423 rfl rfl
def h_St_changeSetting : Hd := (⟨"NurseryPlaces$State", "changeSetting", "(II)I"⟩, prog_9_method_6_code, 4, (some .int), 1, 22, 3)
set_option maxRecDepth 100000 in
theorem hk_St_changeSetting : HdOk h_St_changeSetting 2 := ⟨InT.of 405 rfl rfl, InT.of 53 rfl rfl, by decide, by decide, by decide +kernel⟩
set_option maxRecDepth 100000 in
theorem hi_St_changeSetting : InT (.instanceMethod (hY h_St_changeSetting)) := InT.of 403 rfl rfl
set_option maxRecDepth 100000 in
theorem hv_St_changeSetting : InT (.selects (hY h_St_changeSetting).cls (hY h_St_changeSetting) (hY h_St_changeSetting)) := InT.of 404 rfl rfl
def h_St_copyFrom : Hd := (⟨"NurseryPlaces$State", "copyFrom", "(LNurseryPlaces$State;)V"⟩, prog_9_method_2_code, 3, none, 1, 59, 2)
set_option maxRecDepth 100000 in
theorem hk_St_copyFrom : HdOk h_St_copyFrom 1 := ⟨InT.of 386 rfl rfl, InT.of 53 rfl rfl, by decide, by decide, by decide +kernel⟩
set_option maxRecDepth 100000 in
theorem hi_St_copyFrom : InT (.instanceMethod (hY h_St_copyFrom)) := InT.of 384 rfl rfl
set_option maxRecDepth 100000 in
theorem hv_St_copyFrom : InT (.selects (hY h_St_copyFrom).cls (hY h_St_copyFrom) (hY h_St_copyFrom)) := InT.of 385 rfl rfl
def h_St_letLeave : Hd := (⟨"NurseryPlaces$State", "letLeave", "(I)I"⟩, prog_9_method_11_code, 2, (some .int), 1, 23, 2)
set_option maxRecDepth 100000 in
theorem hk_St_letLeave : HdOk h_St_letLeave 1 := ⟨InT.of 472 rfl rfl, InT.of 53 rfl rfl, by decide, by decide, by decide +kernel⟩
set_option maxRecDepth 100000 in
theorem hi_St_letLeave : InT (.instanceMethod (hY h_St_letLeave)) := InT.of 470 rfl rfl
set_option maxRecDepth 100000 in
theorem hv_St_letLeave : InT (.selects (hY h_St_letLeave).cls (hY h_St_letLeave) (hY h_St_letLeave)) := InT.of 471 rfl rfl
def h_St_placesIn : Hd := (⟨"NurseryPlaces$State", "placesIn", "(IIZ)I"⟩, prog_9_method_13_code, 12, (some .int), 1, 22, 4)
set_option maxRecDepth 100000 in
theorem hk_St_placesIn : HdOk h_St_placesIn 3 := ⟨InT.of 530 rfl rfl, InT.of 53 rfl rfl, by decide, by decide, by decide +kernel⟩
set_option maxRecDepth 100000 in
theorem hi_St_placesIn : InT (.instanceMethod (hY h_St_placesIn)) := InT.of 528 rfl rfl
set_option maxRecDepth 100000 in
theorem hv_St_placesIn : InT (.selects (hY h_St_placesIn).cls (hY h_St_placesIn) (hY h_St_placesIn)) := InT.of 529 rfl rfl
def h_St_reportSick : Hd := (⟨"NurseryPlaces$State", "reportSick", "(I)I"⟩, prog_9_method_12_code, 4, (some .int), 1, 21, 2)
set_option maxRecDepth 100000 in
theorem hk_St_reportSick : HdOk h_St_reportSick 1 := ⟨InT.of 593 rfl rfl, InT.of 53 rfl rfl, by decide, by decide, by decide +kernel⟩
set_option maxRecDepth 100000 in
theorem hi_St_reportSick : InT (.instanceMethod (hY h_St_reportSick)) := InT.of 591 rfl rfl
set_option maxRecDepth 100000 in
theorem hv_St_reportSick : InT (.selects (hY h_St_reportSick).cls (hY h_St_reportSick) (hY h_St_reportSick)) := InT.of 592 rfl rfl
def h_St_roomOfAge : Hd := (⟨"NurseryPlaces$State", "roomOfAge", "(I)I"⟩, prog_9_method_18_code, 3, (some .int), 1, 21, 2)
set_option maxRecDepth 100000 in
theorem hk_St_roomOfAge : HdOk h_St_roomOfAge 1 := ⟨InT.of 507 rfl rfl, InT.of 53 rfl rfl, by decide, by decide, by decide +kernel⟩
set_option maxRecDepth 100000 in
theorem hi_St_roomOfAge : InT (.instanceMethod (hY h_St_roomOfAge)) := InT.of 505 rfl rfl
set_option maxRecDepth 100000 in
theorem hv_St_roomOfAge : InT (.selects (hY h_St_roomOfAge).cls (hY h_St_roomOfAge) (hY h_St_roomOfAge)) := InT.of 506 rfl rfl
def h_St_takenIn : Hd := (⟨"NurseryPlaces$State", "takenIn", "(II)I"⟩, prog_9_method_15_code, 5, (some .int), 1, 21, 3)
set_option maxRecDepth 100000 in
theorem hk_St_takenIn : HdOk h_St_takenIn 2 := ⟨InT.of 522 rfl rfl, InT.of 53 rfl rfl, by decide, by decide, by decide +kernel⟩
set_option maxRecDepth 100000 in
theorem hi_St_takenIn : InT (.instanceMethod (hY h_St_takenIn)) := InT.of 520 rfl rfl
set_option maxRecDepth 100000 in
theorem hv_St_takenIn : InT (.selects (hY h_St_takenIn).cls (hY h_St_takenIn) (hY h_St_takenIn)) := InT.of 521 rfl rfl
def h_Str_checkIndex : Hd := (⟨"java/lang/String", "checkIndex", "(II)V"⟩, prog_15_method_155_code, 2, none, 1, 22, 2)
set_option maxRecDepth 100000 in
theorem hk_Str_checkIndex : HdOk h_Str_checkIndex 2 := ⟨InT.of 805 rfl rfl, InT.of 66 rfl rfl, by decide, by decide, by decide +kernel⟩
set_option maxRecDepth 100000 in
theorem hs_Str_checkIndex : InT (.static (hY h_Str_checkIndex)) := InT.of 804 rfl rfl
def h_Str_length : Hd := (⟨"java/lang/String", "length", "()I"⟩, prog_15_method_54_code, 1, (some .int), 1, 20, 1)
set_option maxRecDepth 100000 in
theorem hk_Str_length : HdOk h_Str_length 0 := ⟨InT.of 785 rfl rfl, InT.of 66 rfl rfl, by decide, by decide, by decide +kernel⟩
set_option maxRecDepth 100000 in
theorem hi_Str_length : InT (.instanceMethod (hY h_Str_length)) := InT.of 783 rfl rfl
set_option maxRecDepth 100000 in
theorem hv_Str_length : InT (.selects (hY h_Str_length).cls (hY h_Str_length) (hY h_Str_length)) := InT.of 784 rfl rfl
def h_Wk_bookCame : Hd := (⟨"NurseryPlaces$Week", "bookCame", "(LNurseryPlaces$State;I)V"⟩, prog_10_method_9_code, 4, none, 1, 25, 2)
set_option maxRecDepth 100000 in
theorem hk_Wk_bookCame : HdOk h_Wk_bookCame 2 := ⟨InT.of 635 rfl rfl, InT.of 65 rfl rfl, by decide, by decide, by decide +kernel⟩
set_option maxRecDepth 100000 in
theorem hs_Wk_bookCame : InT (.static (hY h_Wk_bookCame)) := InT.of 634 rfl rfl
def h_Wk_dropImpatient : Hd := (⟨"NurseryPlaces$Week", "dropImpatient", "(LNurseryPlaces$State;)V"⟩, prog_10_method_15_code, 4, none, 1, 21, 1)
set_option maxRecDepth 100000 in
theorem hk_Wk_dropImpatient : HdOk h_Wk_dropImpatient 1 := ⟨InT.of 659 rfl rfl, InT.of 65 rfl rfl, by decide, by decide, by decide +kernel⟩
set_option maxRecDepth 100000 in
theorem hs_Wk_dropImpatient : InT (.static (hY h_Wk_dropImpatient)) := InT.of 658 rfl rfl
def h_Wk_nextSentHome : Hd := (⟨"NurseryPlaces$Week", "nextSentHome", "(LNurseryPlaces$State;I)I"⟩, prog_10_method_8_code, 7, (some .int), 1, 21, 2)
set_option maxRecDepth 100000 in
theorem hk_Wk_nextSentHome : HdOk h_Wk_nextSentHome 2 := ⟨InT.of 630 rfl rfl, InT.of 65 rfl rfl, by decide, by decide, by decide +kernel⟩
set_option maxRecDepth 100000 in
theorem hs_Wk_nextSentHome : InT (.static (hY h_Wk_nextSentHome)) := InT.of 629 rfl rfl
def h_Ch_come : Hd := (⟨"NurseryPlaces$Child", "come", "(IIII)V"⟩, prog_4_method_3_code, 5, none, 2, 42, 5)
set_option maxRecDepth 100000 in
theorem hk_Ch_come : HdOk h_Ch_come 4 := ⟨InT.of 456 rfl rfl, InT.of 56 rfl rfl, by decide, by decide, by decide +kernel⟩
set_option maxRecDepth 100000 in
theorem hi_Ch_come : InT (.instanceMethod (hY h_Ch_come)) := InT.of 454 rfl rfl
set_option maxRecDepth 100000 in
theorem hv_Ch_come : InT (.selects (hY h_Ch_come).cls (hY h_Ch_come) (hY h_Ch_come)) := InT.of 455 rfl rfl
def h_Hi_note : Hd := (⟨"NurseryPlaces$History", "note", "(LNurseryPlaces$State;)V"⟩, prog_5_method_2_code, 2, none, 2, 81, 2)
set_option maxRecDepth 100000 in
theorem hk_Hi_note : HdOk h_Hi_note 1 := ⟨InT.of 382 rfl rfl, InT.of 57 rfl rfl, by decide, by decide, by decide +kernel⟩
set_option maxRecDepth 100000 in
theorem hi_Hi_note : InT (.instanceMethod (hY h_Hi_note)) := InT.of 380 rfl rfl
set_option maxRecDepth 100000 in
theorem hv_Hi_note : InT (.selects (hY h_Hi_note).cls (hY h_Hi_note) (hY h_Hi_note)) := InT.of 381 rfl rfl
def h_Hi_takeBack : Hd := (⟨"NurseryPlaces$History", "takeBack", "(LNurseryPlaces$State;)I"⟩, prog_5_method_4_code, 2, (some .int), 2, 81, 2)
set_option maxRecDepth 100000 in
theorem hk_Hi_takeBack : HdOk h_Hi_takeBack 1 := ⟨InT.of 875 rfl rfl, InT.of 57 rfl rfl, by decide, by decide, by decide +kernel⟩
set_option maxRecDepth 100000 in
theorem hi_Hi_takeBack : InT (.instanceMethod (hY h_Hi_takeBack)) := InT.of 873 rfl rfl
set_option maxRecDepth 100000 in
theorem hv_Hi_takeBack : InT (.selects (hY h_Hi_takeBack).cls (hY h_Hi_takeBack) (hY h_Hi_takeBack)) := InT.of 874 rfl rfl
def h_Md_carer : Hd := (⟨"NurseryPlacesModel", "carer", "(IIII)I"⟩, prog_12_method_26_code, 5, (some .int), 2, 44, 5)
set_option maxRecDepth 100000 in
theorem hk_Md_carer : HdOk h_Md_carer 4 := ⟨InT.of 957 rfl rfl, InT.of 59 rfl rfl, by decide, by decide, by decide +kernel⟩
set_option maxRecDepth 100000 in
theorem hi_Md_carer : InT (.instanceMethod (hY h_Md_carer)) := InT.of 955 rfl rfl
set_option maxRecDepth 100000 in
theorem hv_Md_carer : InT (.selects (hY h_Md_carer).cls (hY h_Md_carer) (hY h_Md_carer)) := InT.of 956 rfl rfl
def h_Md_childAt : Hd := (⟨"NurseryPlacesModel", "childAt", "(I)Z"⟩, prog_12_method_71_code, 2, (some .boolean), 2, 45, 2)
set_option maxRecDepth 100000 in
theorem hk_Md_childAt : HdOk h_Md_childAt 1 := ⟨InT.of 1218 rfl rfl, InT.of 59 rfl rfl, by decide, by decide, by decide +kernel⟩
set_option maxRecDepth 100000 in
theorem hi_Md_childAt : InT (.instanceMethod (hY h_Md_childAt)) := InT.of 1217 rfl rfl
set_option maxRecDepth 100000 in
theorem hv_Md_childAt : InT (.selects (hY h_Md_childAt).cls (hY h_Md_childAt) (hY h_Md_childAt)) := InT.of 48 rfl rfl
def h_Md_count : Hd := (⟨"NurseryPlacesModel", "count", "(I)I"⟩, prog_12_method_56_code, 2, (some .int), 2, 45, 2)
set_option maxRecDepth 100000 in
theorem hk_Md_count : HdOk h_Md_count 1 := ⟨InT.of 1137 rfl rfl, InT.of 59 rfl rfl, by decide, by decide, by decide +kernel⟩
set_option maxRecDepth 100000 in
theorem hi_Md_count : InT (.instanceMethod (hY h_Md_count)) := InT.of 1135 rfl rfl
set_option maxRecDepth 100000 in
theorem hv_Md_count : InT (.selects (hY h_Md_count).cls (hY h_Md_count) (hY h_Md_count)) := InT.of 1136 rfl rfl
def h_Md_giveBack : Hd := (⟨"NurseryPlacesModel", "giveBack", "(II)I"⟩, prog_12_method_41_code, 3, (some .int), 2, 43, 3)
set_option maxRecDepth 100000 in
theorem hk_Md_giveBack : HdOk h_Md_giveBack 2 := ⟨InT.of 1077 rfl rfl, InT.of 59 rfl rfl, by decide, by decide, by decide +kernel⟩
set_option maxRecDepth 100000 in
theorem hi_Md_giveBack : InT (.instanceMethod (hY h_Md_giveBack)) := InT.of 1075 rfl rfl
set_option maxRecDepth 100000 in
theorem hv_Md_giveBack : InT (.selects (hY h_Md_giveBack).cls (hY h_Md_giveBack) (hY h_Md_giveBack)) := InT.of 1076 rfl rfl
def h_Md_guests : Hd := (⟨"NurseryPlacesModel", "guests", "(II)I"⟩, prog_12_method_36_code, 5, (some .int), 2, 44, 3)
set_option maxRecDepth 100000 in
theorem hk_Md_guests : HdOk h_Md_guests 2 := ⟨InT.of 1061 rfl rfl, InT.of 59 rfl rfl, by decide, by decide, by decide +kernel⟩
set_option maxRecDepth 100000 in
theorem hi_Md_guests : InT (.instanceMethod (hY h_Md_guests)) := InT.of 1060 rfl rfl
set_option maxRecDepth 100000 in
theorem hv_Md_guests : InT (.selects (hY h_Md_guests).cls (hY h_Md_guests) (hY h_Md_guests)) := InT.of 27 rfl rfl
def h_Md_leave : Hd := (⟨"NurseryPlacesModel", "leave", "(I)I"⟩, prog_12_method_30_code, 2, (some .int), 2, 45, 2)
set_option maxRecDepth 100000 in
theorem hk_Md_leave : HdOk h_Md_leave 1 := ⟨InT.of 980 rfl rfl, InT.of 59 rfl rfl, by decide, by decide, by decide +kernel⟩
set_option maxRecDepth 100000 in
theorem hi_Md_leave : InT (.instanceMethod (hY h_Md_leave)) := InT.of 978 rfl rfl
set_option maxRecDepth 100000 in
theorem hv_Md_leave : InT (.selects (hY h_Md_leave).cls (hY h_Md_leave) (hY h_Md_leave)) := InT.of 979 rfl rfl
def h_Md_ofCarer : Hd := (⟨"NurseryPlacesModel", "ofCarer", "(II)I"⟩, prog_12_method_53_code, 3, (some .int), 2, 43, 3)
set_option maxRecDepth 100000 in
theorem hk_Md_ofCarer : HdOk h_Md_ofCarer 2 := ⟨InT.of 1129 rfl rfl, InT.of 59 rfl rfl, by decide, by decide, by decide +kernel⟩
set_option maxRecDepth 100000 in
theorem hi_Md_ofCarer : InT (.instanceMethod (hY h_Md_ofCarer)) := InT.of 1127 rfl rfl
set_option maxRecDepth 100000 in
theorem hv_Md_ofCarer : InT (.selects (hY h_Md_ofCarer).cls (hY h_Md_ofCarer) (hY h_Md_ofCarer)) := InT.of 1128 rfl rfl
def h_Md_ofChild : Hd := (⟨"NurseryPlacesModel", "ofChild", "(II)I"⟩, prog_12_method_54_code, 3, (some .int), 2, 43, 3)
set_option maxRecDepth 100000 in
theorem hk_Md_ofChild : HdOk h_Md_ofChild 2 := ⟨InT.of 1133 rfl rfl, InT.of 59 rfl rfl, by decide, by decide, by decide +kernel⟩
set_option maxRecDepth 100000 in
theorem hi_Md_ofChild : InT (.instanceMethod (hY h_Md_ofChild)) := InT.of 1131 rfl rfl
set_option maxRecDepth 100000 in
theorem hv_Md_ofChild : InT (.selects (hY h_Md_ofChild).cls (hY h_Md_ofChild) (hY h_Md_ofChild)) := InT.of 1132 rfl rfl
def h_Md_pays : Hd := (⟨"NurseryPlacesModel", "pays", "(I)V"⟩, prog_12_method_47_code, 4, none, 2, 45, 2)
set_option maxRecDepth 100000 in
theorem hk_Md_pays : HdOk h_Md_pays 1 := ⟨InT.of 1109 rfl rfl, InT.of 59 rfl rfl, by decide, by decide, by decide +kernel⟩
set_option maxRecDepth 100000 in
theorem hi_Md_pays : InT (.instanceMethod (hY h_Md_pays)) := InT.of 1108 rfl rfl
set_option maxRecDepth 100000 in
theorem hv_Md_pays : InT (.selects (hY h_Md_pays).cls (hY h_Md_pays) (hY h_Md_pays)) := InT.of 35 rfl rfl
def h_Md_places : Hd := (⟨"NurseryPlacesModel", "places", "(IIZ)I"⟩, prog_12_method_16_code, 7, (some .int), 2, 50, 4)
set_option maxRecDepth 100000 in
theorem hk_Md_places : HdOk h_Md_places 3 := ⟨InT.of 1042 rfl rfl, InT.of 59 rfl rfl, by decide, by decide, by decide +kernel⟩
set_option maxRecDepth 100000 in
theorem hi_Md_places : InT (.instanceMethod (hY h_Md_places)) := InT.of 1041 rfl rfl
set_option maxRecDepth 100000 in
theorem hv_Md_places : InT (.selects (hY h_Md_places).cls (hY h_Md_places) (hY h_Md_places)) := InT.of 24 rfl rfl
def h_Md_placesWith : Hd := (⟨"NurseryPlacesModel", "placesWith", "(IIII)I"⟩, prog_12_method_63_code, 12, (some .int), 2, 50, 5)
set_option maxRecDepth 100000 in
theorem hk_Md_placesWith : HdOk h_Md_placesWith 4 := ⟨InT.of 1177 rfl rfl, InT.of 59 rfl rfl, by decide, by decide, by decide +kernel⟩
set_option maxRecDepth 100000 in
theorem hi_Md_placesWith : InT (.instanceMethod (hY h_Md_placesWith)) := InT.of 1176 rfl rfl
set_option maxRecDepth 100000 in
theorem hv_Md_placesWith : InT (.selects (hY h_Md_placesWith).cls (hY h_Md_placesWith) (hY h_Md_placesWith)) := InT.of 42 rfl rfl
def h_Md_sick : Hd := (⟨"NurseryPlacesModel", "sick", "(I)I"⟩, prog_12_method_42_code, 4, (some .int), 2, 43, 2)
set_option maxRecDepth 100000 in
theorem hk_Md_sick : HdOk h_Md_sick 1 := ⟨InT.of 1081 rfl rfl, InT.of 59 rfl rfl, by decide, by decide, by decide +kernel⟩
set_option maxRecDepth 100000 in
theorem hi_Md_sick : InT (.instanceMethod (hY h_Md_sick)) := InT.of 1079 rfl rfl
set_option maxRecDepth 100000 in
theorem hv_Md_sick : InT (.selects (hY h_Md_sick).cls (hY h_Md_sick) (hY h_Md_sick)) := InT.of 1080 rfl rfl
def h_Md_taken : Hd := (⟨"NurseryPlacesModel", "taken", "(II)I"⟩, prog_12_method_18_code, 5, (some .int), 2, 44, 3)
set_option maxRecDepth 100000 in
theorem hk_Md_taken : HdOk h_Md_taken 2 := ⟨InT.of 1034 rfl rfl, InT.of 59 rfl rfl, by decide, by decide, by decide +kernel⟩
set_option maxRecDepth 100000 in
theorem hi_Md_taken : InT (.instanceMethod (hY h_Md_taken)) := InT.of 1033 rfl rfl
set_option maxRecDepth 100000 in
theorem hv_Md_taken : InT (.selects (hY h_Md_taken).cls (hY h_Md_taken) (hY h_Md_taken)) := InT.of 22 rfl rfl
def h_N_free : Hd := (⟨"NurseryPlaces", "free", "(II)I"⟩, prog_1_method_17_code, 3, (some .int), 2, 53, 3)
set_option maxRecDepth 100000 in
theorem hk_N_free : HdOk h_N_free 2 := ⟨InT.of 698 rfl rfl, InT.of 52 rfl rfl, by decide, by decide, by decide +kernel⟩
set_option maxRecDepth 100000 in
theorem hi_N_free : InT (.instanceMethod (hY h_N_free)) := InT.of 696 rfl rfl
set_option maxRecDepth 100000 in
theorem hv_N_free : InT (.selects (hY h_N_free).cls (hY h_N_free) (hY h_N_free)) := InT.of 697 rfl rfl
def h_N_ofRoom : Hd := (⟨"NurseryPlaces", "ofRoom", "(II)I"⟩, prog_1_method_13_code, 4, (some .int), 2, 53, 3)
set_option maxRecDepth 100000 in
theorem hk_N_ofRoom : HdOk h_N_ofRoom 2 := ⟨InT.of 663 rfl rfl, InT.of 52 rfl rfl, by decide, by decide, by decide +kernel⟩
set_option maxRecDepth 100000 in
theorem hi_N_ofRoom : InT (.instanceMethod (hY h_N_ofRoom)) := InT.of 661 rfl rfl
set_option maxRecDepth 100000 in
theorem hv_N_ofRoom : InT (.selects (hY h_N_ofRoom).cls (hY h_N_ofRoom) (hY h_N_ofRoom)) := InT.of 662 rfl rfl
def h_N_save : Hd := (⟨"NurseryPlaces", "save", "(I)I"⟩, prog_1_method_30_code, 2, (some .int), 2, 81, 2)
set_option maxRecDepth 100000 in
theorem hk_N_save : HdOk h_N_save 1 := ⟨InT.of 879 rfl rfl, InT.of 52 rfl rfl, by decide, by decide, by decide +kernel⟩
set_option maxRecDepth 100000 in
theorem hi_N_save : InT (.instanceMethod (hY h_N_save)) := InT.of 877 rfl rfl
set_option maxRecDepth 100000 in
theorem hv_N_save : InT (.selects (hY h_N_save).cls (hY h_N_save) (hY h_N_save)) := InT.of 878 rfl rfl
def h_Pd_append : Hd := (⟨"NurseryPlaces$Pad", "append", "(J)I"⟩, prog_6_method_2_code, 5, (some .int), 2, 46, 2)
set_option maxRecDepth 100000 in
theorem hk_Pd_append : HdOk h_Pd_append 1 := ⟨InT.of 744 rfl rfl, InT.of 58 rfl rfl, by decide, by decide, by decide +kernel⟩
set_option maxRecDepth 100000 in
theorem hi_Pd_append : InT (.instanceMethod (hY h_Pd_append)) := InT.of 742 rfl rfl
set_option maxRecDepth 100000 in
theorem hv_Pd_append : InT (.selects (hY h_Pd_append).cls (hY h_Pd_append) (hY h_Pd_append)) := InT.of 743 rfl rfl
def h_Pd_readDigit : Hd := (⟨"NurseryPlaces$Pad", "readDigit", "()Z"⟩, prog_6_method_12_code, 1, (some .boolean), 2, 42, 1)
set_option maxRecDepth 100000 in
theorem hk_Pd_readDigit : HdOk h_Pd_readDigit 0 := ⟨InT.of 849 rfl rfl, InT.of 58 rfl rfl, by decide, by decide, by decide +kernel⟩
set_option maxRecDepth 100000 in
theorem hi_Pd_readDigit : InT (.instanceMethod (hY h_Pd_readDigit)) := InT.of 848 rfl rfl
set_option maxRecDepth 100000 in
theorem hv_Pd_readDigit : InT (.selects (hY h_Pd_readDigit).cls (hY h_Pd_readDigit) (hY h_Pd_readDigit)) := InT.of 5 rfl rfl
def h_Pd_readNumber : Hd := (⟨"NurseryPlaces$Pad", "readNumber", "()Z"⟩, prog_6_method_13_code, 3, (some .boolean), 2, 42, 1)
set_option maxRecDepth 100000 in
theorem hk_Pd_readNumber : HdOk h_Pd_readNumber 0 := ⟨InT.of 837 rfl rfl, InT.of 58 rfl rfl, by decide, by decide, by decide +kernel⟩
set_option maxRecDepth 100000 in
theorem hi_Pd_readNumber : InT (.instanceMethod (hY h_Pd_readNumber)) := InT.of 836 rfl rfl
set_option maxRecDepth 100000 in
theorem hv_Pd_readNumber : InT (.selects (hY h_Pd_readNumber).cls (hY h_Pd_readNumber) (hY h_Pd_readNumber)) := InT.of 2 rfl rfl
def h_Se_handBack : Hd := (⟨"NurseryPlaces$Sessions", "handBack", "(LNurseryPlaces$State;II)I"⟩, prog_8_method_6_code, 5, (some .int), 2, 42, 3)
set_option maxRecDepth 100000 in
theorem hk_Se_handBack : HdOk h_Se_handBack 3 := ⟨InT.of 584 rfl rfl, InT.of 64 rfl rfl, by decide, by decide, by decide +kernel⟩
set_option maxRecDepth 100000 in
theorem hs_Se_handBack : InT (.static (hY h_Se_handBack)) := InT.of 583 rfl rfl
def h_Se_hasPlaceForVisit : Hd := (⟨"NurseryPlaces$Sessions", "hasPlaceForVisit", "(LNurseryPlaces$State;II)Z"⟩, prog_8_method_3_code, 6, (some .boolean), 2, 53, 3)
set_option maxRecDepth 100000 in
theorem hk_Se_hasPlaceForVisit : HdOk h_Se_hasPlaceForVisit 3 := ⟨InT.of 557 rfl rfl, InT.of 64 rfl rfl, by decide, by decide, by decide +kernel⟩
set_option maxRecDepth 100000 in
theorem hs_Se_hasPlaceForVisit : InT (.static (hY h_Se_hasPlaceForVisit)) := InT.of 556 rfl rfl
def h_Sl_charAt : Hd := (⟨"java/lang/StringLatin1", "charAt", "([BI)C"⟩, prog_16_method_2_code, 2, (some .char), 2, 43, 2)
set_option maxRecDepth 100000 in
theorem hk_Sl_charAt : HdOk h_Sl_charAt 2 := ⟨InT.of 802 rfl rfl, InT.of 67 rfl rfl, by decide, by decide, by decide +kernel⟩
set_option maxRecDepth 100000 in
theorem hs_Sl_charAt : InT (.static (hY h_Sl_charAt)) := InT.of 801 rfl rfl
def h_St_addCarer : Hd := (⟨"NurseryPlaces$State", "addCarer", "(IIII)I"⟩, prog_9_method_8_code, 5, (some .int), 2, 44, 5)
set_option maxRecDepth 100000 in
theorem hk_St_addCarer : HdOk h_St_addCarer 4 := ⟨InT.of 432 rfl rfl, InT.of 53 rfl rfl, by decide, by decide, by decide +kernel⟩
set_option maxRecDepth 100000 in
theorem hi_St_addCarer : InT (.instanceMethod (hY h_St_addCarer)) := InT.of 430 rfl rfl
set_option maxRecDepth 100000 in
theorem hv_St_addCarer : InT (.selects (hY h_St_addCarer).cls (hY h_St_addCarer) (hY h_St_addCarer)) := InT.of 431 rfl rfl
def h_St_isOpen : Hd := (⟨"NurseryPlaces$State", "isOpen", "(II)Z"⟩, prog_9_method_16_code, 3, (some .boolean), 2, 53, 3)
set_option maxRecDepth 100000 in
theorem hk_St_isOpen : HdOk h_St_isOpen 2 := ⟨InT.of 577 rfl rfl, InT.of 53 rfl rfl, by decide, by decide, by decide +kernel⟩
set_option maxRecDepth 100000 in
theorem hi_St_isOpen : InT (.instanceMethod (hY h_St_isOpen)) := InT.of 575 rfl rfl
set_option maxRecDepth 100000 in
theorem hv_St_isOpen : InT (.selects (hY h_St_isOpen).cls (hY h_St_isOpen) (hY h_St_isOpen)) := InT.of 576 rfl rfl
def h_St_openOnes : Hd := (⟨"NurseryPlaces$State", "openOnes", "(II)I"⟩, prog_9_method_17_code, 6, (some .int), 2, 53, 3)
set_option maxRecDepth 100000 in
theorem hk_St_openOnes : HdOk h_St_openOnes 2 := ⟨InT.of 515 rfl rfl, InT.of 53 rfl rfl, by decide, by decide, by decide +kernel⟩
set_option maxRecDepth 100000 in
theorem hi_St_openOnes : InT (.instanceMethod (hY h_St_openOnes)) := InT.of 513 rfl rfl
set_option maxRecDepth 100000 in
theorem hv_St_openOnes : InT (.selects (hY h_St_openOnes).cls (hY h_St_openOnes) (hY h_St_openOnes)) := InT.of 514 rfl rfl
def h_St_placesInAll : Hd := (⟨"NurseryPlaces$State", "placesInAll", "(I)I"⟩, prog_9_method_14_code, 4, (some .int), 2, 53, 2)
set_option maxRecDepth 100000 in
theorem hk_St_placesInAll : HdOk h_St_placesInAll 1 := ⟨InT.of 732 rfl rfl, InT.of 53 rfl rfl, by decide, by decide, by decide +kernel⟩
set_option maxRecDepth 100000 in
theorem hi_St_placesInAll : InT (.instanceMethod (hY h_St_placesInAll)) := InT.of 730 rfl rfl
set_option maxRecDepth 100000 in
theorem hv_St_placesInAll : InT (.selects (hY h_St_placesInAll).cls (hY h_St_placesInAll) (hY h_St_placesInAll)) := InT.of 731 rfl rfl
def h_Wk_comersTo : Hd := (⟨"NurseryPlaces$Week", "comersTo", "(LNurseryPlaces$State;II)I"⟩, prog_10_method_5_code, 6, (some .int), 2, 42, 3)
set_option maxRecDepth 100000 in
theorem hk_Wk_comersTo : HdOk h_Wk_comersTo 3 := ⟨InT.of 614 rfl rfl, InT.of 65 rfl rfl, by decide, by decide, by decide +kernel⟩
set_option maxRecDepth 100000 in
theorem hs_Wk_comersTo : InT (.static (hY h_Wk_comersTo)) := InT.of 613 rfl rfl
def h_Wk_tooMany : Hd := (⟨"NurseryPlaces$Week", "tooMany", "(LNurseryPlaces$State;III)I"⟩, prog_10_method_6_code, 4, (some .int), 2, 53, 4)
set_option maxRecDepth 100000 in
theorem hk_Wk_tooMany : HdOk h_Wk_tooMany 4 := ⟨InT.of 622 rfl rfl, InT.of 65 rfl rfl, by decide, by decide, by decide +kernel⟩
set_option maxRecDepth 100000 in
theorem hs_Wk_tooMany : InT (.static (hY h_Wk_tooMany)) := InT.of 621 rfl rfl
def h_Ad_sessionsFor : Hd := (⟨"NurseryPlaces$Admission", "sessionsFor", "(LNurseryPlaces$State;I)I"⟩, prog_2_method_6_code, 4, (some .int), 3, 78, 2)
set_option maxRecDepth 100000 in
theorem hk_Ad_sessionsFor : HdOk h_Ad_sessionsFor 2 := ⟨InT.of 503 rfl rfl, InT.of 62 rfl rfl, by decide, by decide, by decide +kernel⟩
set_option maxRecDepth 100000 in
theorem hs_Ad_sessionsFor : InT (.static (hY h_Ad_sessionsFor)) := InT.of 502 rfl rfl
def h_Md_allPlaces : Hd := (⟨"NurseryPlacesModel", "allPlaces", "(I)I"⟩, prog_12_method_62_code, 4, (some .int), 3, 76, 2)
set_option maxRecDepth 100000 in
theorem hk_Md_allPlaces : HdOk h_Md_allPlaces 1 := ⟨InT.of 1181 rfl rfl, InT.of 59 rfl rfl, by decide, by decide, by decide +kernel⟩
set_option maxRecDepth 100000 in
theorem hi_Md_allPlaces : InT (.instanceMethod (hY h_Md_allPlaces)) := InT.of 1180 rfl rfl
set_option maxRecDepth 100000 in
theorem hv_Md_allPlaces : InT (.selects (hY h_Md_allPlaces).cls (hY h_Md_allPlaces) (hY h_Md_allPlaces)) := InT.of 43 rfl rfl
def h_Md_come : Hd := (⟨"NurseryPlacesModel", "come", "(II)V"⟩, prog_12_method_43_code, 8, none, 3, 76, 3)
set_option maxRecDepth 100000 in
theorem hk_Md_come : HdOk h_Md_come 2 := ⟨InT.of 1101 rfl rfl, InT.of 59 rfl rfl, by decide, by decide, by decide +kernel⟩
set_option maxRecDepth 100000 in
theorem hi_Md_come : InT (.instanceMethod (hY h_Md_come)) := InT.of 1100 rfl rfl
set_option maxRecDepth 100000 in
theorem hv_Md_come : InT (.selects (hY h_Md_come).cls (hY h_Md_come) (hY h_Md_come)) := InT.of 33 rfl rfl
def h_Md_free : Hd := (⟨"NurseryPlacesModel", "free", "(II)I"⟩, prog_12_method_57_code, 4, (some .int), 3, 76, 3)
set_option maxRecDepth 100000 in
theorem hk_Md_free : HdOk h_Md_free 2 := ⟨InT.of 1145 rfl rfl, InT.of 59 rfl rfl, by decide, by decide, by decide +kernel⟩
set_option maxRecDepth 100000 in
theorem hi_Md_free : InT (.instanceMethod (hY h_Md_free)) := InT.of 1143 rfl rfl
set_option maxRecDepth 100000 in
theorem hv_Md_free : InT (.selects (hY h_Md_free).cls (hY h_Md_free) (hY h_Md_free)) := InT.of 1144 rfl rfl
def h_Md_isFree : Hd := (⟨"NurseryPlacesModel", "isFree", "(II)Z"⟩, prog_12_method_19_code, 3, (some .boolean), 3, 76, 3)
set_option maxRecDepth 100000 in
theorem hk_Md_isFree : HdOk h_Md_isFree 2 := ⟨InT.of 1030 rfl rfl, InT.of 59 rfl rfl, by decide, by decide, by decide +kernel⟩
set_option maxRecDepth 100000 in
theorem hi_Md_isFree : InT (.instanceMethod (hY h_Md_isFree)) := InT.of 1029 rfl rfl
set_option maxRecDepth 100000 in
theorem hv_Md_isFree : InT (.selects (hY h_Md_isFree).cls (hY h_Md_isFree) (hY h_Md_isFree)) := InT.of 21 rfl rfl
def h_Md_ofRoom : Hd := (⟨"NurseryPlacesModel", "ofRoom", "(II)I"⟩, prog_12_method_52_code, 5, (some .int), 3, 76, 3)
set_option maxRecDepth 100000 in
theorem hk_Md_ofRoom : HdOk h_Md_ofRoom 2 := ⟨InT.of 1125 rfl rfl, InT.of 59 rfl rfl, by decide, by decide, by decide +kernel⟩
set_option maxRecDepth 100000 in
theorem hi_Md_ofRoom : InT (.instanceMethod (hY h_Md_ofRoom)) := InT.of 1123 rfl rfl
set_option maxRecDepth 100000 in
theorem hv_Md_ofRoom : InT (.selects (hY h_Md_ofRoom).cls (hY h_Md_ofRoom) (hY h_Md_ofRoom)) := InT.of 1124 rfl rfl
def h_Md_readOrder : Hd := (⟨"NurseryPlacesModel", "readOrder", "()Z"⟩, prog_12_method_72_code, 1, (some .boolean), 3, 66, 1)
set_option maxRecDepth 100000 in
theorem hk_Md_readOrder : HdOk h_Md_readOrder 0 := ⟨InT.of 1206 rfl rfl, InT.of 59 rfl rfl, by decide, by decide, by decide +kernel⟩
set_option maxRecDepth 100000 in
theorem hi_Md_readOrder : InT (.instanceMethod (hY h_Md_readOrder)) := InT.of 1205 rfl rfl
set_option maxRecDepth 100000 in
theorem hv_Md_readOrder : InT (.selects (hY h_Md_readOrder).cls (hY h_Md_readOrder) (hY h_Md_readOrder)) := InT.of 45 rfl rfl
def h_Md_visit : Hd := (⟨"NurseryPlacesModel", "visit", "(II)I"⟩, prog_12_method_38_code, 4, (some .int), 3, 76, 3)
set_option maxRecDepth 100000 in
theorem hk_Md_visit : HdOk h_Md_visit 2 := ⟨InT.of 1054 rfl rfl, InT.of 59 rfl rfl, by decide, by decide, by decide +kernel⟩
set_option maxRecDepth 100000 in
theorem hi_Md_visit : InT (.instanceMethod (hY h_Md_visit)) := InT.of 1052 rfl rfl
set_option maxRecDepth 100000 in
theorem hv_Md_visit : InT (.selects (hY h_Md_visit).cls (hY h_Md_visit) (hY h_Md_visit)) := InT.of 1053 rfl rfl
def h_N_carer : Hd := (⟨"NurseryPlaces", "carer", "(IIII)I"⟩, prog_1_method_4_code, 5, (some .int), 3, 102, 5)
set_option maxRecDepth 100000 in
theorem hk_N_carer : HdOk h_N_carer 4 := ⟨InT.of 428 rfl rfl, InT.of 52 rfl rfl, by decide, by decide, by decide +kernel⟩
set_option maxRecDepth 100000 in
theorem hi_N_carer : InT (.instanceMethod (hY h_N_carer)) := InT.of 426 rfl rfl
set_option maxRecDepth 100000 in
theorem hv_N_carer : InT (.selects (hY h_N_carer).cls (hY h_N_carer) (hY h_N_carer)) := InT.of 427 rfl rfl
def h_N_giveBack : Hd := (⟨"NurseryPlaces", "giveBack", "(II)I"⟩, prog_1_method_10_code, 3, (some .int), 3, 102, 3)
set_option maxRecDepth 100000 in
theorem hk_N_giveBack : HdOk h_N_giveBack 2 := ⟨InT.of 581 rfl rfl, InT.of 52 rfl rfl, by decide, by decide, by decide +kernel⟩
set_option maxRecDepth 100000 in
theorem hi_N_giveBack : InT (.instanceMethod (hY h_N_giveBack)) := InT.of 579 rfl rfl
set_option maxRecDepth 100000 in
theorem hv_N_giveBack : InT (.selects (hY h_N_giveBack).cls (hY h_N_giveBack) (hY h_N_giveBack)) := InT.of 580 rfl rfl
def h_N_leave : Hd := (⟨"NurseryPlaces", "leave", "(I)I"⟩, prog_1_method_6_code, 2, (some .int), 3, 102, 2)
set_option maxRecDepth 100000 in
theorem hk_N_leave : HdOk h_N_leave 1 := ⟨InT.of 468 rfl rfl, InT.of 52 rfl rfl, by decide, by decide, by decide +kernel⟩
set_option maxRecDepth 100000 in
theorem hi_N_leave : InT (.instanceMethod (hY h_N_leave)) := InT.of 466 rfl rfl
set_option maxRecDepth 100000 in
theorem hv_N_leave : InT (.selects (hY h_N_leave).cls (hY h_N_leave) (hY h_N_leave)) := InT.of 467 rfl rfl
def h_N_moreBy : Hd := (⟨"NurseryPlaces", "moreBy", "(IIII)I"⟩, prog_1_method_22_code, 5, (some .int), 3, 81, 5)
set_option maxRecDepth 100000 in
theorem hk_N_moreBy : HdOk h_N_moreBy 4 := ⟨InT.of 726 rfl rfl, InT.of 52 rfl rfl, by decide, by decide, by decide +kernel⟩
set_option maxRecDepth 100000 in
theorem hi_N_moreBy : InT (.instanceMethod (hY h_N_moreBy)) := InT.of 724 rfl rfl
set_option maxRecDepth 100000 in
theorem hv_N_moreBy : InT (.selects (hY h_N_moreBy).cls (hY h_N_moreBy) (hY h_N_moreBy)) := InT.of 725 rfl rfl
def h_N_put : Hd := (⟨"NurseryPlaces", "put", "(J)I"⟩, prog_1_method_24_code, 3, (some .int), 3, 70, 2)
set_option maxRecDepth 100000 in
theorem hk_N_put : HdOk h_N_put 1 := ⟨InT.of 740 rfl rfl, InT.of 52 rfl rfl, by decide, by decide, by decide +kernel⟩
set_option maxRecDepth 100000 in
theorem hi_N_put : InT (.instanceMethod (hY h_N_put)) := InT.of 738 rfl rfl
set_option maxRecDepth 100000 in
theorem hv_N_put : InT (.selects (hY h_N_put).cls (hY h_N_put) (hY h_N_put)) := InT.of 739 rfl rfl
def h_N_restore : Hd := (⟨"NurseryPlaces", "restore", "(I)I"⟩, prog_1_method_31_code, 2, (some .int), 3, 102, 2)
set_option maxRecDepth 100000 in
theorem hk_N_restore : HdOk h_N_restore 1 := ⟨InT.of 886 rfl rfl, InT.of 52 rfl rfl, by decide, by decide, by decide +kernel⟩
set_option maxRecDepth 100000 in
theorem hi_N_restore : InT (.instanceMethod (hY h_N_restore)) := InT.of 884 rfl rfl
set_option maxRecDepth 100000 in
theorem hv_N_restore : InT (.selects (hY h_N_restore).cls (hY h_N_restore) (hY h_N_restore)) := InT.of 885 rfl rfl
def h_N_room : Hd := (⟨"NurseryPlaces", "room", "(IIII)I"⟩, prog_1_method_3_code, 5, (some .int), 3, 102, 5)
set_option maxRecDepth 100000 in
theorem hk_N_room : HdOk h_N_room 4 := ⟨InT.of 420 rfl rfl, InT.of 52 rfl rfl, by decide, by decide, by decide +kernel⟩
set_option maxRecDepth 100000 in
theorem hi_N_room : InT (.instanceMethod (hY h_N_room)) := InT.of 418 rfl rfl
set_option maxRecDepth 100000 in
theorem hv_N_room : InT (.selects (hY h_N_room).cls (hY h_N_room) (hY h_N_room)) := InT.of 419 rfl rfl
def h_N_set : Hd := (⟨"NurseryPlaces", "set", "(II)I"⟩, prog_1_method_2_code, 3, (some .int), 3, 102, 3)
set_option maxRecDepth 100000 in
theorem hk_N_set : HdOk h_N_set 2 := ⟨InT.of 378 rfl rfl, InT.of 52 rfl rfl, by decide, by decide, by decide +kernel⟩
set_option maxRecDepth 100000 in
theorem hi_N_set : InT (.instanceMethod (hY h_N_set)) := InT.of 376 rfl rfl
set_option maxRecDepth 100000 in
theorem hv_N_set : InT (.selects (hY h_N_set).cls (hY h_N_set) (hY h_N_set)) := InT.of 377 rfl rfl
def h_N_sick : Hd := (⟨"NurseryPlaces", "sick", "(I)I"⟩, prog_1_method_11_code, 2, (some .int), 3, 102, 2)
set_option maxRecDepth 100000 in
theorem hk_N_sick : HdOk h_N_sick 1 := ⟨InT.of 589 rfl rfl, InT.of 52 rfl rfl, by decide, by decide, by decide +kernel⟩
set_option maxRecDepth 100000 in
theorem hi_N_sick : InT (.instanceMethod (hY h_N_sick)) := InT.of 587 rfl rfl
set_option maxRecDepth 100000 in
theorem hv_N_sick : InT (.selects (hY h_N_sick).cls (hY h_N_sick) (hY h_N_sick)) := InT.of 588 rfl rfl
def h_N_undo : Hd := (⟨"NurseryPlaces", "undo", "()I"⟩, prog_1_method_29_code, 1, (some .int), 3, 102, 1)
set_option maxRecDepth 100000 in
theorem hk_N_undo : HdOk h_N_undo 0 := ⟨InT.of 871 rfl rfl, InT.of 52 rfl rfl, by decide, by decide, by decide +kernel⟩
set_option maxRecDepth 100000 in
theorem hi_N_undo : InT (.instanceMethod (hY h_N_undo)) := InT.of 869 rfl rfl
set_option maxRecDepth 100000 in
theorem hv_N_undo : InT (.selects (hY h_N_undo).cls (hY h_N_undo) (hY h_N_undo)) := InT.of 870 rfl rfl
def h_Pd_readPart : Hd := (⟨"NurseryPlaces$Pad", "readPart", "(C)Z"⟩, prog_6_method_10_code, 2, (some .boolean), 3, 64, 2)
set_option maxRecDepth 100000 in
theorem hk_Pd_readPart : HdOk h_Pd_readPart 1 := ⟨InT.of 833 rfl rfl, InT.of 58 rfl rfl, by decide, by decide, by decide +kernel⟩
set_option maxRecDepth 100000 in
theorem hi_Pd_readPart : InT (.instanceMethod (hY h_Pd_readPart)) := InT.of 832 rfl rfl
set_option maxRecDepth 100000 in
theorem hv_Pd_readPart : InT (.selects (hY h_Pd_readPart).cls (hY h_Pd_readPart) (hY h_Pd_readPart)) := InT.of 1 rfl rfl
def h_Se_canExchange : Hd := (⟨"NurseryPlaces$Sessions", "canExchange", "(LNurseryPlaces$State;IIII)Z"⟩, prog_8_method_5_code, 7, (some .boolean), 3, 75, 5)
set_option maxRecDepth 100000 in
theorem hk_Se_canExchange : HdOk h_Se_canExchange 5 := ⟨InT.of 573 rfl rfl, InT.of 64 rfl rfl, by decide, by decide, by decide +kernel⟩
set_option maxRecDepth 100000 in
theorem hs_Se_canExchange : InT (.static (hY h_Se_canExchange)) := InT.of 572 rfl rfl
def h_Se_planVisit : Hd := (⟨"NurseryPlaces$Sessions", "planVisit", "(LNurseryPlaces$State;II)I"⟩, prog_8_method_2_code, 4, (some .int), 3, 78, 3)
set_option maxRecDepth 100000 in
theorem hk_Se_planVisit : HdOk h_Se_planVisit 3 := ⟨InT.of 549 rfl rfl, InT.of 64 rfl rfl, by decide, by decide, by decide +kernel⟩
set_option maxRecDepth 100000 in
theorem hs_Se_planVisit : InT (.static (hY h_Se_planVisit)) := InT.of 548 rfl rfl
def h_St_addChild : Hd := (⟨"NurseryPlaces$State", "addChild", "(III)I"⟩, prog_9_method_10_code, 4, (some .int), 3, 66, 4)
set_option maxRecDepth 100000 in
theorem hk_St_addChild : HdOk h_St_addChild 3 := ⟨InT.of 452 rfl rfl, InT.of 53 rfl rfl, by decide, by decide, by decide +kernel⟩
set_option maxRecDepth 100000 in
theorem hi_St_addChild : InT (.instanceMethod (hY h_St_addChild)) := InT.of 450 rfl rfl
set_option maxRecDepth 100000 in
theorem hv_St_addChild : InT (.selects (hY h_St_addChild).cls (hY h_St_addChild) (hY h_St_addChild)) := InT.of 451 rfl rfl
def h_Str_charAt : Hd := (⟨"java/lang/String", "charAt", "(I)C"⟩, prog_15_method_56_code, 2, (some .char), 3, 64, 2)
set_option maxRecDepth 100000 in
theorem hk_Str_charAt : HdOk h_Str_charAt 1 := ⟨InT.of 795 rfl rfl, InT.of 66 rfl rfl, by decide, by decide, by decide +kernel⟩
set_option maxRecDepth 100000 in
theorem hi_Str_charAt : InT (.instanceMethod (hY h_Str_charAt)) := InT.of 793 rfl rfl
set_option maxRecDepth 100000 in
theorem hv_Str_charAt : InT (.selects (hY h_Str_charAt).cls (hY h_Str_charAt) (hY h_Str_charAt)) := InT.of 794 rfl rfl
def h_Wk_countTooMany : Hd := (⟨"NurseryPlaces$Week", "countTooMany", "(LNurseryPlaces$State;)I"⟩, prog_10_method_7_code, 4, (some .int), 3, 76, 1)
set_option maxRecDepth 100000 in
theorem hk_Wk_countTooMany : HdOk h_Wk_countTooMany 1 := ⟨InT.of 722 rfl rfl, InT.of 65 rfl rfl, by decide, by decide, by decide +kernel⟩
set_option maxRecDepth 100000 in
theorem hs_Wk_countTooMany : InT (.static (hY h_Wk_countTooMany)) := InT.of 721 rfl rfl
def h_Wk_holdSession : Hd := (⟨"NurseryPlaces$Week", "holdSession", "(LNurseryPlaces$State;II)V"⟩, prog_10_method_4_code, 6, none, 3, 76, 3)
set_option maxRecDepth 100000 in
theorem hk_Wk_holdSession : HdOk h_Wk_holdSession 3 := ⟨InT.of 611 rfl rfl, InT.of 65 rfl rfl, by decide, by decide, by decide +kernel⟩
set_option maxRecDepth 100000 in
theorem hs_Wk_holdSession : InT (.static (hY h_Wk_holdSession)) := InT.of 610 rfl rfl
def h_Wk_move : Hd := (⟨"NurseryPlaces$Week", "move", "(LNurseryPlaces$State;LNurseryPlaces$Child;)V"⟩, prog_10_method_14_code, 4, none, 3, 78, 2)
set_option maxRecDepth 100000 in
theorem hk_Wk_move : HdOk h_Wk_move 2 := ⟨InT.of 652 rfl rfl, InT.of 65 rfl rfl, by decide, by decide, by decide +kernel⟩
set_option maxRecDepth 100000 in
theorem hs_Wk_move : InT (.static (hY h_Wk_move)) := InT.of 651 rfl rfl
def h_Ad_nextOnList : Hd := (⟨"NurseryPlaces$Admission", "nextOnList", "(LNurseryPlaces$State;)I"⟩, prog_2_method_3_code, 5, (some .int), 4, 101, 1)
set_option maxRecDepth 100000 in
theorem hk_Ad_nextOnList : HdOk h_Ad_nextOnList 1 := ⟨InT.of 497 rfl rfl, InT.of 62 rfl rfl, by decide, by decide, by decide +kernel⟩
set_option maxRecDepth 100000 in
theorem hs_Ad_nextOnList : InT (.static (hY h_Ad_nextOnList)) := InT.of 496 rfl rfl
def h_Ad_place : Hd := (⟨"NurseryPlaces$Admission", "place", "(LNurseryPlaces$State;I)V"⟩, prog_2_method_5_code, 3, none, 4, 101, 2)
set_option maxRecDepth 100000 in
theorem hk_Ad_place : HdOk h_Ad_place 2 := ⟨InT.of 542 rfl rfl, InT.of 62 rfl rfl, by decide, by decide, by decide +kernel⟩
set_option maxRecDepth 100000 in
theorem hs_Ad_place : InT (.static (hY h_Ad_place)) := InT.of 541 rfl rfl
def h_Md_canSwap : Hd := (⟨"NurseryPlacesModel", "canSwap", "(IIII)Z"⟩, prog_12_method_39_code, 5, (some .boolean), 4, 98, 5)
set_option maxRecDepth 100000 in
theorem hk_Md_canSwap : HdOk h_Md_canSwap 4 := ⟨InT.of 1073 rfl rfl, InT.of 59 rfl rfl, by decide, by decide, by decide +kernel⟩
set_option maxRecDepth 100000 in
theorem hi_Md_canSwap : InT (.instanceMethod (hY h_Md_canSwap)) := InT.of 1072 rfl rfl
set_option maxRecDepth 100000 in
theorem hv_Md_canSwap : InT (.selects (hY h_Md_canSwap).cls (hY h_Md_canSwap) (hY h_Md_canSwap)) := InT.of 29 rfl rfl
def h_Md_comeAll : Hd := (⟨"NurseryPlacesModel", "comeAll", "()V"⟩, prog_12_method_45_code, 2, none, 4, 103, 1)
set_option maxRecDepth 100000 in
theorem hk_Md_comeAll : HdOk h_Md_comeAll 0 := ⟨InT.of 1097 rfl rfl, InT.of 59 rfl rfl, by decide, by decide, by decide +kernel⟩
set_option maxRecDepth 100000 in
theorem hi_Md_comeAll : InT (.instanceMethod (hY h_Md_comeAll)) := InT.of 1096 rfl rfl
set_option maxRecDepth 100000 in
theorem hv_Md_comeAll : InT (.selects (hY h_Md_comeAll).cls (hY h_Md_comeAll) (hY h_Md_comeAll)) := InT.of 32 rfl rfl
def h_Md_freeOf : Hd := (⟨"NurseryPlacesModel", "freeOf", "(II)I"⟩, prog_12_method_20_code, 5, (some .int), 4, 98, 3)
set_option maxRecDepth 100000 in
theorem hk_Md_freeOf : HdOk h_Md_freeOf 2 := ⟨InT.of 1023 rfl rfl, InT.of 59 rfl rfl, by decide, by decide, by decide +kernel⟩
set_option maxRecDepth 100000 in
theorem hi_Md_freeOf : InT (.instanceMethod (hY h_Md_freeOf)) := InT.of 1022 rfl rfl
set_option maxRecDepth 100000 in
theorem hv_Md_freeOf : InT (.selects (hY h_Md_freeOf).cls (hY h_Md_freeOf) (hY h_Md_freeOf)) := InT.of 20 rfl rfl
def h_Md_isGood : Hd := (⟨"NurseryPlacesModel", "isGood", "()Z"⟩, prog_12_method_73_code, 2, (some .boolean), 4, 86, 1)
set_option maxRecDepth 100000 in
theorem hk_Md_isGood : HdOk h_Md_isGood 0 := ⟨InT.of 1202 rfl rfl, InT.of 59 rfl rfl, by decide, by decide, by decide +kernel⟩
set_option maxRecDepth 100000 in
theorem hi_Md_isGood : InT (.instanceMethod (hY h_Md_isGood)) := InT.of 1201 rfl rfl
set_option maxRecDepth 100000 in
theorem hv_Md_isGood : InT (.selects (hY h_Md_isGood).cls (hY h_Md_isGood) (hY h_Md_isGood)) := InT.of 44 rfl rfl
def h_Md_moreBy : Hd := (⟨"NurseryPlacesModel", "moreBy", "(IIII)I"⟩, prog_12_method_64_code, 5, (some .int), 4, 99, 5)
set_option maxRecDepth 100000 in
theorem hk_Md_moreBy : HdOk h_Md_moreBy 4 := ⟨InT.of 1173 rfl rfl, InT.of 59 rfl rfl, by decide, by decide, by decide +kernel⟩
set_option maxRecDepth 100000 in
theorem hi_Md_moreBy : InT (.instanceMethod (hY h_Md_moreBy)) := InT.of 1171 rfl rfl
set_option maxRecDepth 100000 in
theorem hv_Md_moreBy : InT (.selects (hY h_Md_moreBy).cls (hY h_Md_moreBy) (hY h_Md_moreBy)) := InT.of 1172 rfl rfl
def h_N_child : Hd := (⟨"NurseryPlaces", "child", "(III)I"⟩, prog_1_method_5_code, 4, (some .int), 4, 102, 4)
set_option maxRecDepth 100000 in
theorem hk_N_child : HdOk h_N_child 3 := ⟨InT.of 448 rfl rfl, InT.of 52 rfl rfl, by decide, by decide, by decide +kernel⟩
set_option maxRecDepth 100000 in
theorem hi_N_child : InT (.instanceMethod (hY h_N_child)) := InT.of 446 rfl rfl
set_option maxRecDepth 100000 in
theorem hv_N_child : InT (.selects (hY h_N_child).cls (hY h_N_child) (hY h_N_child)) := InT.of 447 rfl rfl
def h_N_partners : Hd := (⟨"NurseryPlaces", "partners", "(III)I"⟩, prog_1_method_20_code, 6, (some .int), 4, 101, 4)
set_option maxRecDepth 100000 in
theorem hk_N_partners : HdOk h_N_partners 3 := ⟨InT.of 714 rfl rfl, InT.of 52 rfl rfl, by decide, by decide, by decide +kernel⟩
set_option maxRecDepth 100000 in
theorem hi_N_partners : InT (.instanceMethod (hY h_N_partners)) := InT.of 712 rfl rfl
set_option maxRecDepth 100000 in
theorem hv_N_partners : InT (.selects (hY h_N_partners).cls (hY h_N_partners) (hY h_N_partners)) := InT.of 713 rfl rfl
def h_N_sentHome : Hd := (⟨"NurseryPlaces", "sentHome", "(I)I"⟩, prog_1_method_21_code, 2, (some .int), 4, 99, 2)
set_option maxRecDepth 100000 in
theorem hk_N_sentHome : HdOk h_N_sentHome 1 := ⟨InT.of 719 rfl rfl, InT.of 52 rfl rfl, by decide, by decide, by decide +kernel⟩
set_option maxRecDepth 100000 in
theorem hi_N_sentHome : InT (.instanceMethod (hY h_N_sentHome)) := InT.of 717 rfl rfl
set_option maxRecDepth 100000 in
theorem hv_N_sentHome : InT (.selects (hY h_N_sentHome).cls (hY h_N_sentHome) (hY h_N_sentHome)) := InT.of 718 rfl rfl
def h_N_visit : Hd := (⟨"NurseryPlaces", "visit", "(II)I"⟩, prog_1_method_8_code, 3, (some .int), 4, 102, 3)
set_option maxRecDepth 100000 in
theorem hk_N_visit : HdOk h_N_visit 2 := ⟨InT.of 546 rfl rfl, InT.of 52 rfl rfl, by decide, by decide, by decide +kernel⟩
set_option maxRecDepth 100000 in
theorem hi_N_visit : InT (.instanceMethod (hY h_N_visit)) := InT.of 544 rfl rfl
set_option maxRecDepth 100000 in
theorem hv_N_visit : InT (.selects (hY h_N_visit).cls (hY h_N_visit) (hY h_N_visit)) := InT.of 545 rfl rfl
def h_N_wouldGet : Hd := (⟨"NurseryPlaces", "wouldGet", "(I)I"⟩, prog_1_method_18_code, 2, (some .int), 4, 101, 2)
set_option maxRecDepth 100000 in
theorem hk_N_wouldGet : HdOk h_N_wouldGet 1 := ⟨InT.of 704 rfl rfl, InT.of 52 rfl rfl, by decide, by decide, by decide +kernel⟩
set_option maxRecDepth 100000 in
theorem hi_N_wouldGet : InT (.instanceMethod (hY h_N_wouldGet)) := InT.of 702 rfl rfl
set_option maxRecDepth 100000 in
theorem hv_N_wouldGet : InT (.selects (hY h_N_wouldGet).cls (hY h_N_wouldGet) (hY h_N_wouldGet)) := InT.of 703 rfl rfl
def h_Pd_readOrder : Hd := (⟨"NurseryPlaces$Pad", "readOrder", "()Z"⟩, prog_6_method_8_code, 3, (some .boolean), 4, 85, 1)
set_option maxRecDepth 100000 in
theorem hk_Pd_readOrder : HdOk h_Pd_readOrder 0 := ⟨InT.of 773 rfl rfl, InT.of 58 rfl rfl, by decide, by decide, by decide +kernel⟩
set_option maxRecDepth 100000 in
theorem hi_Pd_readOrder : InT (.instanceMethod (hY h_Pd_readOrder)) := InT.of 772 rfl rfl
set_option maxRecDepth 100000 in
theorem hv_Pd_readOrder : InT (.selects (hY h_Pd_readOrder).cls (hY h_Pd_readOrder) (hY h_Pd_readOrder)) := InT.of 0 rfl rfl
def h_Se_exchange : Hd := (⟨"NurseryPlaces$Sessions", "exchange", "(LNurseryPlaces$State;IIII)I"⟩, prog_8_method_4_code, 6, (some .int), 4, 101, 5)
set_option maxRecDepth 100000 in
theorem hk_Se_exchange : HdOk h_Se_exchange 5 := ⟨InT.of 570 rfl rfl, InT.of 64 rfl rfl, by decide, by decide, by decide +kernel⟩
set_option maxRecDepth 100000 in
theorem hs_Se_exchange : InT (.static (hY h_Se_exchange)) := InT.of 569 rfl rfl
def h_Wk_holdSessions : Hd := (⟨"NurseryPlaces$Week", "holdSessions", "(LNurseryPlaces$State;)V"⟩, prog_10_method_3_code, 3, none, 4, 101, 1)
set_option maxRecDepth 100000 in
theorem hk_Wk_holdSessions : HdOk h_Wk_holdSessions 1 := ⟨InT.of 608 rfl rfl, InT.of 65 rfl rfl, by decide, by decide, by decide +kernel⟩
set_option maxRecDepth 100000 in
theorem hs_Wk_holdSessions : InT (.static (hY h_Wk_holdSessions)) := InT.of 607 rfl rfl
def h_Wk_moveGrown : Hd := (⟨"NurseryPlaces$Week", "moveGrown", "(LNurseryPlaces$State;)V"⟩, prog_10_method_13_code, 3, none, 4, 101, 1)
set_option maxRecDepth 100000 in
theorem hk_Wk_moveGrown : HdOk h_Wk_moveGrown 1 := ⟨InT.of 647 rfl rfl, InT.of 65 rfl rfl, by decide, by decide, by decide +kernel⟩
set_option maxRecDepth 100000 in
theorem hs_Wk_moveGrown : InT (.static (hY h_Wk_moveGrown)) := InT.of 646 rfl rfl
def h_Ad_admitAll : Hd := (⟨"NurseryPlaces$Admission", "admitAll", "(LNurseryPlaces$State;)I"⟩, prog_2_method_2_code, 4, (some .int), 5, 125, 1)
set_option maxRecDepth 100000 in
theorem hk_Ad_admitAll : HdOk h_Ad_admitAll 1 := ⟨InT.of 494 rfl rfl, InT.of 62 rfl rfl, by decide, by decide, by decide +kernel⟩
set_option maxRecDepth 100000 in
theorem hs_Ad_admitAll : InT (.static (hY h_Ad_admitAll)) := InT.of 493 rfl rfl
def h_Md_fault : Hd := (⟨"NurseryPlacesModel", "fault", "()I"⟩, prog_12_method_74_code, 1, (some .int), 5, 107, 1)
set_option maxRecDepth 100000 in
theorem hk_Md_fault : HdOk h_Md_fault 0 := ⟨InT.of 1198 rfl rfl, InT.of 59 rfl rfl, by decide, by decide, by decide +kernel⟩
set_option maxRecDepth 100000 in
theorem hi_Md_fault : InT (.instanceMethod (hY h_Md_fault)) := InT.of 1196 rfl rfl
set_option maxRecDepth 100000 in
theorem hv_Md_fault : InT (.selects (hY h_Md_fault).cls (hY h_Md_fault) (hY h_Md_fault)) := InT.of 1197 rfl rfl
def h_Md_gets : Hd := (⟨"NurseryPlacesModel", "gets", "(I)I"⟩, prog_12_method_31_code, 4, (some .int), 5, 122, 2)
set_option maxRecDepth 100000 in
theorem hk_Md_gets : HdOk h_Md_gets 1 := ⟨InT.of 1015 rfl rfl, InT.of 59 rfl rfl, by decide, by decide, by decide +kernel⟩
set_option maxRecDepth 100000 in
theorem hi_Md_gets : InT (.instanceMethod (hY h_Md_gets)) := InT.of 1014 rfl rfl
set_option maxRecDepth 100000 in
theorem hv_Md_gets : InT (.selects (hY h_Md_gets).cls (hY h_Md_gets) (hY h_Md_gets)) := InT.of 18 rfl rfl
def h_Md_moves : Hd := (⟨"NurseryPlacesModel", "moves", "(I)V"⟩, prog_12_method_49_code, 6, none, 5, 122, 2)
set_option maxRecDepth 100000 in
theorem hk_Md_moves : HdOk h_Md_moves 1 := ⟨InT.of 1121 rfl rfl, InT.of 59 rfl rfl, by decide, by decide, by decide +kernel⟩
set_option maxRecDepth 100000 in
theorem hi_Md_moves : InT (.instanceMethod (hY h_Md_moves)) := InT.of 1120 rfl rfl
set_option maxRecDepth 100000 in
theorem hv_Md_moves : InT (.selects (hY h_Md_moves).cls (hY h_Md_moves) (hY h_Md_moves)) := InT.of 38 rfl rfl
def h_Md_partners : Hd := (⟨"NurseryPlacesModel", "partners", "(III)I"⟩, prog_12_method_60_code, 6, (some .int), 5, 122, 4)
set_option maxRecDepth 100000 in
theorem hk_Md_partners : HdOk h_Md_partners 3 := ⟨InT.of 1165 rfl rfl, InT.of 59 rfl rfl, by decide, by decide, by decide +kernel⟩
set_option maxRecDepth 100000 in
theorem hi_Md_partners : InT (.instanceMethod (hY h_Md_partners)) := InT.of 1163 rfl rfl
set_option maxRecDepth 100000 in
theorem hv_Md_partners : InT (.selects (hY h_Md_partners).cls (hY h_Md_partners) (hY h_Md_partners)) := InT.of 1164 rfl rfl
def h_Md_sentHome : Hd := (⟨"NurseryPlacesModel", "sentHome", "(I)I"⟩, prog_12_method_61_code, 6, (some .int), 5, 124, 2)
set_option maxRecDepth 100000 in
theorem hk_Md_sentHome : HdOk h_Md_sentHome 1 := ⟨InT.of 1169 rfl rfl, InT.of 59 rfl rfl, by decide, by decide, by decide +kernel⟩
set_option maxRecDepth 100000 in
theorem hi_Md_sentHome : InT (.instanceMethod (hY h_Md_sentHome)) := InT.of 1167 rfl rfl
set_option maxRecDepth 100000 in
theorem hv_Md_sentHome : InT (.selects (hY h_Md_sentHome).cls (hY h_Md_sentHome) (hY h_Md_sentHome)) := InT.of 1168 rfl rfl
def h_Md_swap : Hd := (⟨"NurseryPlacesModel", "swap", "(IIII)I"⟩, prog_12_method_40_code, 6, (some .int), 5, 122, 5)
set_option maxRecDepth 100000 in
theorem hk_Md_swap : HdOk h_Md_swap 4 := ⟨InT.of 1069 rfl rfl, InT.of 59 rfl rfl, by decide, by decide, by decide +kernel⟩
set_option maxRecDepth 100000 in
theorem hi_Md_swap : InT (.instanceMethod (hY h_Md_swap)) := InT.of 1067 rfl rfl
set_option maxRecDepth 100000 in
theorem hv_Md_swap : InT (.selects (hY h_Md_swap).cls (hY h_Md_swap) (hY h_Md_swap)) := InT.of 1068 rfl rfl
def h_N_swap : Hd := (⟨"NurseryPlaces", "swap", "(IIII)I"⟩, prog_1_method_9_code, 5, (some .int), 5, 126, 5)
set_option maxRecDepth 100000 in
theorem hk_N_swap : HdOk h_N_swap 4 := ⟨InT.of 567 rfl rfl, InT.of 52 rfl rfl, by decide, by decide, by decide +kernel⟩
set_option maxRecDepth 100000 in
theorem hi_N_swap : InT (.instanceMethod (hY h_N_swap)) := InT.of 565 rfl rfl
set_option maxRecDepth 100000 in
theorem hv_N_swap : InT (.selects (hY h_N_swap).cls (hY h_N_swap) (hY h_N_swap)) := InT.of 566 rfl rfl
def h_Pd_findFault : Hd := (⟨"NurseryPlaces$Pad", "findFault", "()I"⟩, prog_6_method_6_code, 2, (some .int), 5, 107, 1)
set_option maxRecDepth 100000 in
theorem hk_Pd_findFault : HdOk h_Pd_findFault 0 := ⟨InT.of 765 rfl rfl, InT.of 58 rfl rfl, by decide, by decide, by decide +kernel⟩
set_option maxRecDepth 100000 in
theorem hi_Pd_findFault : InT (.instanceMethod (hY h_Pd_findFault)) := InT.of 763 rfl rfl
set_option maxRecDepth 100000 in
theorem hv_Pd_findFault : InT (.selects (hY h_Pd_findFault).cls (hY h_Pd_findFault) (hY h_Pd_findFault)) := InT.of 764 rfl rfl
def h_Pd_readNextOrder : Hd := (⟨"NurseryPlaces$Pad", "readNextOrder", "()Z"⟩, prog_6_method_7_code, 1, (some .boolean), 5, 107, 1)
set_option maxRecDepth 100000 in
theorem hk_Pd_readNextOrder : HdOk h_Pd_readNextOrder 0 := ⟨InT.of 863 rfl rfl, InT.of 58 rfl rfl, by decide, by decide, by decide +kernel⟩
set_option maxRecDepth 100000 in
theorem hi_Pd_readNextOrder : InT (.instanceMethod (hY h_Pd_readNextOrder)) := InT.of 861 rfl rfl
set_option maxRecDepth 100000 in
theorem hv_Pd_readNextOrder : InT (.selects (hY h_Pd_readNextOrder).cls (hY h_Pd_readNextOrder) (hY h_Pd_readNextOrder)) := InT.of 862 rfl rfl
def h_Wk_passWeeks : Hd := (⟨"NurseryPlaces$Week", "passWeeks", "(LNurseryPlaces$State;I)I"⟩, prog_10_method_2_code, 3, (some .int), 5, 123, 2)
set_option maxRecDepth 100000 in
theorem hk_Wk_passWeeks : HdOk h_Wk_passWeeks 2 := ⟨InT.of 604 rfl rfl, InT.of 65 rfl rfl, by decide, by decide, by decide +kernel⟩
set_option maxRecDepth 100000 in
theorem hs_Wk_passWeeks : InT (.static (hY h_Wk_passWeeks)) := InT.of 603 rfl rfl
def h_Md_firstOne : Hd := (⟨"NurseryPlacesModel", "firstOne", "()I"⟩, prog_12_method_33_code, 4, (some .int), 6, 145, 1)
set_option maxRecDepth 100000 in
theorem hk_Md_firstOne : HdOk h_Md_firstOne 0 := ⟨InT.of 1011 rfl rfl, InT.of 59 rfl rfl, by decide, by decide, by decide +kernel⟩
set_option maxRecDepth 100000 in
theorem hi_Md_firstOne : InT (.instanceMethod (hY h_Md_firstOne)) := InT.of 1010 rfl rfl
set_option maxRecDepth 100000 in
theorem hv_Md_firstOne : InT (.selects (hY h_Md_firstOne).cls (hY h_Md_firstOne) (hY h_Md_firstOne)) := InT.of 17 rfl rfl
def h_Md_oneWeek : Hd := (⟨"NurseryPlacesModel", "oneWeek", "()V"⟩, prog_12_method_50_code, 2, none, 6, 147, 1)
set_option maxRecDepth 100000 in
theorem hk_Md_oneWeek : HdOk h_Md_oneWeek 0 := ⟨InT.of 1093 rfl rfl, InT.of 59 rfl rfl, by decide, by decide, by decide +kernel⟩
set_option maxRecDepth 100000 in
theorem hi_Md_oneWeek : InT (.instanceMethod (hY h_Md_oneWeek)) := InT.of 1092 rfl rfl
set_option maxRecDepth 100000 in
theorem hv_Md_oneWeek : InT (.selects (hY h_Md_oneWeek).cls (hY h_Md_oneWeek) (hY h_Md_oneWeek)) := InT.of 31 rfl rfl
def h_Md_wouldGet : Hd := (⟨"NurseryPlacesModel", "wouldGet", "(I)I"⟩, prog_12_method_58_code, 2, (some .int), 6, 145, 2)
set_option maxRecDepth 100000 in
theorem hk_Md_wouldGet : HdOk h_Md_wouldGet 1 := ⟨InT.of 1149 rfl rfl, InT.of 59 rfl rfl, by decide, by decide, by decide +kernel⟩
set_option maxRecDepth 100000 in
theorem hi_Md_wouldGet : InT (.instanceMethod (hY h_Md_wouldGet)) := InT.of 1147 rfl rfl
set_option maxRecDepth 100000 in
theorem hv_Md_wouldGet : InT (.selects (hY h_Md_wouldGet).cls (hY h_Md_wouldGet) (hY h_Md_wouldGet)) := InT.of 1148 rfl rfl
def h_N_admit : Hd := (⟨"NurseryPlaces", nm_ad, "()I"⟩, prog_1_method_7_code, 1, (some .int), 6, 148, 1)
set_option maxRecDepth 100000 in
theorem hk_N_admit : HdOk h_N_admit 0 := ⟨InT.of 491 rfl rfl, InT.of 52 rfl rfl, by decide, by decide, by decide +kernel⟩
set_option maxRecDepth 100000 in
theorem hi_N_admit : InT (.instanceMethod (hY h_N_admit)) := InT.of 489 rfl rfl
set_option maxRecDepth 100000 in
theorem hv_N_admit : InT (.selects (hY h_N_admit).cls (hY h_N_admit) (hY h_N_admit)) := InT.of 490 rfl rfl
def h_N_carryOutOrder : Hd := (⟨"NurseryPlaces", "carryOutOrder", "()I"⟩, prog_1_method_28_code, 1, (some .int), 6, 148, 1)
set_option maxRecDepth 100000 in
theorem hk_N_carryOutOrder : HdOk h_N_carryOutOrder 0 := ⟨InT.of 867 rfl rfl, InT.of 52 rfl rfl, by decide, by decide, by decide +kernel⟩
set_option maxRecDepth 100000 in
theorem hi_N_carryOutOrder : InT (.instanceMethod (hY h_N_carryOutOrder)) := InT.of 866 rfl rfl
set_option maxRecDepth 100000 in
theorem hv_N_carryOutOrder : InT (.selects (hY h_N_carryOutOrder).cls (hY h_N_carryOutOrder) (hY h_N_carryOutOrder)) := InT.of 7 rfl rfl
def h_N_fault : Hd := (⟨"NurseryPlaces", "fault", "()I"⟩, prog_1_method_26_code, 1, (some .int), 6, 128, 1)
set_option maxRecDepth 100000 in
theorem hk_N_fault : HdOk h_N_fault 0 := ⟨InT.of 761 rfl rfl, InT.of 52 rfl rfl, by decide, by decide, by decide +kernel⟩
set_option maxRecDepth 100000 in
theorem hi_N_fault : InT (.instanceMethod (hY h_N_fault)) := InT.of 759 rfl rfl
set_option maxRecDepth 100000 in
theorem hv_N_fault : InT (.selects (hY h_N_fault).cls (hY h_N_fault) (hY h_N_fault)) := InT.of 760 rfl rfl
def h_N_income : Hd := (⟨"NurseryPlaces", "income", "(I)I"⟩, prog_1_method_23_code, 3, (some .int), 6, 145, 2)
set_option maxRecDepth 100000 in
theorem hk_N_income : HdOk h_N_income 1 := ⟨InT.of 736 rfl rfl, InT.of 52 rfl rfl, by decide, by decide, by decide +kernel⟩
set_option maxRecDepth 100000 in
theorem hi_N_income : InT (.instanceMethod (hY h_N_income)) := InT.of 734 rfl rfl
set_option maxRecDepth 100000 in
theorem hv_N_income : InT (.selects (hY h_N_income).cls (hY h_N_income) (hY h_N_income)) := InT.of 735 rfl rfl
def h_N_weeks : Hd := (⟨"NurseryPlaces", "weeks", "(I)I"⟩, prog_1_method_12_code, 2, (some .int), 6, 145, 2)
set_option maxRecDepth 100000 in
theorem hk_N_weeks : HdOk h_N_weeks 1 := ⟨InT.of 601 rfl rfl, InT.of 52 rfl rfl, by decide, by decide, by decide +kernel⟩
set_option maxRecDepth 100000 in
theorem hi_N_weeks : InT (.instanceMethod (hY h_N_weeks)) := InT.of 599 rfl rfl
set_option maxRecDepth 100000 in
theorem hv_N_weeks : InT (.selects (hY h_N_weeks).cls (hY h_N_weeks) (hY h_N_weeks)) := InT.of 600 rfl rfl
def h_N_wouldAdmit : Hd := (⟨"NurseryPlaces", "wouldAdmit", "()I"⟩, prog_1_method_19_code, 1, (some .int), 6, 148, 1)
set_option maxRecDepth 100000 in
theorem hk_N_wouldAdmit : HdOk h_N_wouldAdmit 0 := ⟨InT.of 709 rfl rfl, InT.of 52 rfl rfl, by decide, by decide, by decide +kernel⟩
set_option maxRecDepth 100000 in
theorem hi_N_wouldAdmit : InT (.instanceMethod (hY h_N_wouldAdmit)) := InT.of 707 rfl rfl
set_option maxRecDepth 100000 in
theorem hv_N_wouldAdmit : InT (.selects (hY h_N_wouldAdmit).cls (hY h_N_wouldAdmit) (hY h_N_wouldAdmit)) := InT.of 708 rfl rfl
def h_Md_admits : Hd := (⟨"NurseryPlacesModel", "admits", "()I"⟩, prog_12_method_34_code, 4, (some .int), 7, 168, 1)
set_option maxRecDepth 100000 in
theorem hk_Md_admits : HdOk h_Md_admits 0 := ⟨InT.of 1007 rfl rfl, InT.of 59 rfl rfl, by decide, by decide, by decide +kernel⟩
set_option maxRecDepth 100000 in
theorem hi_Md_admits : InT (.instanceMethod (hY h_Md_admits)) := InT.of 1006 rfl rfl
set_option maxRecDepth 100000 in
theorem hv_Md_admits : InT (.selects (hY h_Md_admits).cls (hY h_Md_admits) (hY h_Md_admits)) := InT.of 16 rfl rfl
def h_Md_income : Hd := (⟨"NurseryPlacesModel", "income", "(I)I"⟩, prog_12_method_65_code, 3, (some .int), 7, 168, 2)
set_option maxRecDepth 100000 in
theorem hk_Md_income : HdOk h_Md_income 1 := ⟨InT.of 1185 rfl rfl, InT.of 59 rfl rfl, by decide, by decide, by decide +kernel⟩
set_option maxRecDepth 100000 in
theorem hi_Md_income : InT (.instanceMethod (hY h_Md_income)) := InT.of 1183 rfl rfl
set_option maxRecDepth 100000 in
theorem hv_Md_income : InT (.selects (hY h_Md_income).cls (hY h_Md_income) (hY h_Md_income)) := InT.of 1184 rfl rfl
def h_Md_weeks : Hd := (⟨"NurseryPlacesModel", "weeks", "(I)I"⟩, prog_12_method_51_code, 3, (some .int), 7, 168, 2)
set_option maxRecDepth 100000 in
theorem hk_Md_weeks : HdOk h_Md_weeks 1 := ⟨InT.of 1089 rfl rfl, InT.of 59 rfl rfl, by decide, by decide, by decide +kernel⟩
set_option maxRecDepth 100000 in
theorem hi_Md_weeks : InT (.instanceMethod (hY h_Md_weeks)) := InT.of 1087 rfl rfl
set_option maxRecDepth 100000 in
theorem hv_Md_weeks : InT (.selects (hY h_Md_weeks).cls (hY h_Md_weeks) (hY h_Md_weeks)) := InT.of 1088 rfl rfl
def h_N_carryOut : Hd := (⟨"NurseryPlaces", "carryOut", "()I"⟩, prog_1_method_27_code, 2, (some .int), 7, 168, 1)
set_option maxRecDepth 100000 in
theorem hk_N_carryOut : HdOk h_N_carryOut 0 := ⟨InT.of 858 rfl rfl, InT.of 52 rfl rfl, by decide, by decide, by decide +kernel⟩
set_option maxRecDepth 100000 in
theorem hi_N_carryOut : InT (.instanceMethod (hY h_N_carryOut)) := InT.of 856 rfl rfl
set_option maxRecDepth 100000 in
theorem hv_N_carryOut : InT (.selects (hY h_N_carryOut).cls (hY h_N_carryOut) (hY h_N_carryOut)) := InT.of 857 rfl rfl
def h_Md_admit : Hd := (⟨"NurseryPlacesModel", nm_ad, "()I"⟩, prog_12_method_35_code, 1, (some .int), 8, 191, 1)
set_option maxRecDepth 100000 in
theorem hk_Md_admit : HdOk h_Md_admit 0 := ⟨InT.of 1003 rfl rfl, InT.of 59 rfl rfl, by decide, by decide, by decide +kernel⟩
set_option maxRecDepth 100000 in
theorem hi_Md_admit : InT (.instanceMethod (hY h_Md_admit)) := InT.of 1001 rfl rfl
set_option maxRecDepth 100000 in
theorem hv_Md_admit : InT (.selects (hY h_Md_admit).cls (hY h_Md_admit) (hY h_Md_admit)) := InT.of 1002 rfl rfl
def h_Md_wouldAdmit : Hd := (⟨"NurseryPlacesModel", "wouldAdmit", "()I"⟩, prog_12_method_59_code, 2, (some .int), 8, 191, 1)
set_option maxRecDepth 100000 in
theorem hk_Md_wouldAdmit : HdOk h_Md_wouldAdmit 0 := ⟨InT.of 1153 rfl rfl, InT.of 59 rfl rfl, by decide, by decide, by decide +kernel⟩
set_option maxRecDepth 100000 in
theorem hi_Md_wouldAdmit : InT (.instanceMethod (hY h_Md_wouldAdmit)) := InT.of 1151 rfl rfl
set_option maxRecDepth 100000 in
theorem hv_Md_wouldAdmit : InT (.selects (hY h_Md_wouldAdmit).cls (hY h_Md_wouldAdmit) (hY h_Md_wouldAdmit)) := InT.of 1152 rfl rfl
def h_Md_doOrder : Hd := (⟨"NurseryPlacesModel", "doOrder", "()I"⟩, prog_12_method_75_code, 1, (some .int), 9, 211, 1)
set_option maxRecDepth 100000 in
theorem hk_Md_doOrder : HdOk h_Md_doOrder 0 := ⟨InT.of 1230 rfl rfl, InT.of 59 rfl rfl, by decide, by decide, by decide +kernel⟩
set_option maxRecDepth 100000 in
theorem hi_Md_doOrder : InT (.instanceMethod (hY h_Md_doOrder)) := InT.of 1229 rfl rfl
set_option maxRecDepth 100000 in
theorem hv_Md_doOrder : InT (.selects (hY h_Md_doOrder).cls (hY h_Md_doOrder) (hY h_Md_doOrder)) := InT.of 50 rfl rfl
def h_Md_carryOut : Hd := (⟨"NurseryPlacesModel", "carryOut", "()I"⟩, prog_12_method_76_code, 3, (some .int), 10, 231, 1)
set_option maxRecDepth 100000 in
theorem hk_Md_carryOut : HdOk h_Md_carryOut 0 := ⟨InT.of 1226 rfl rfl, InT.of 59 rfl rfl, by decide, by decide, by decide +kernel⟩
set_option maxRecDepth 100000 in
theorem hi_Md_carryOut : InT (.instanceMethod (hY h_Md_carryOut)) := InT.of 1224 rfl rfl
set_option maxRecDepth 100000 in
theorem hv_Md_carryOut : InT (.selects (hY h_Md_carryOut).cls (hY h_Md_carryOut) (hY h_Md_carryOut)) := InT.of 1225 rfl rfl
def h_Lw_law : Hd := (⟨"NurseryPlacesLaw", "law", "([I)Z"⟩, code, 4, (some .boolean), 11, 253, 1)
set_option maxRecDepth 100000 in
theorem f_Ad_33 : LkF "NurseryPlaces$Admission" 33 1 3 := InT.of 253 rfl rfl
set_option maxRecDepth 100000 in
theorem f_Ad_46 : LkF "NurseryPlaces$Admission" 46 4 1 := InT.of 159 rfl rfl
set_option maxRecDepth 100000 in
theorem f_Ad_25 : LkF "NurseryPlaces$Admission" 25 1 6 := InT.of 263 rfl rfl
set_option maxRecDepth 100000 in
theorem f_Ad_37 : LkF "NurseryPlaces$Admission" 37 4 3 := InT.of 167 rfl rfl
set_option maxRecDepth 100000 in
theorem f_Ca_7 : LkF "NurseryPlaces$Carer" 7 3 0 := InT.of 122 rfl rfl
set_option maxRecDepth 100000 in
theorem f_Ca_13 : LkF "NurseryPlaces$Carer" 13 3 1 := InT.of 125 rfl rfl
set_option maxRecDepth 100000 in
theorem f_Ca_16 : LkF "NurseryPlaces$Carer" 16 3 2 := InT.of 128 rfl rfl
set_option maxRecDepth 100000 in
theorem f_Ca_19 : LkF "NurseryPlaces$Carer" 19 3 3 := InT.of 131 rfl rfl
set_option maxRecDepth 100000 in
theorem f_Ca_22 : LkF "NurseryPlaces$Carer" 22 3 4 := InT.of 134 rfl rfl
set_option maxRecDepth 100000 in
theorem f_Ch_9 : LkF "NurseryPlaces$Child" 9 4 0 := InT.of 154 rfl rfl
set_option maxRecDepth 100000 in
theorem f_Ch_15 : LkF "NurseryPlaces$Child" 15 4 1 := InT.of 158 rfl rfl
set_option maxRecDepth 100000 in
theorem f_Ch_18 : LkF "NurseryPlaces$Child" 18 4 2 := InT.of 162 rfl rfl
set_option maxRecDepth 100000 in
theorem f_Ch_21 : LkF "NurseryPlaces$Child" 21 4 3 := InT.of 166 rfl rfl
set_option maxRecDepth 100000 in
theorem f_Ch_24 : LkF "NurseryPlaces$Child" 24 4 4 := InT.of 171 rfl rfl
set_option maxRecDepth 100000 in
theorem f_Ch_27 : LkF "NurseryPlaces$Child" 27 4 5 := InT.of 177 rfl rfl
set_option maxRecDepth 100000 in
theorem f_Ch_30 : LkF "NurseryPlaces$Child" 30 4 6 := InT.of 183 rfl rfl
set_option maxRecDepth 100000 in
theorem f_Ch_34 : LkF "NurseryPlaces$Child" 34 4 7 := InT.of 188 rfl rfl
set_option maxRecDepth 100000 in
theorem f_Ch_37 : LkF "NurseryPlaces$Child" 37 4 8 := InT.of 192 rfl rfl
set_option maxRecDepth 100000 in
theorem f_Ch_40 : LkF "NurseryPlaces$Child" 40 4 9 := InT.of 196 rfl rfl
set_option maxRecDepth 100000 in
theorem f_Ch_43 : LkF "NurseryPlaces$Child" 43 4 10 := InT.of 199 rfl rfl
set_option maxRecDepth 100000 in
theorem f_Ch_46 : LkF "NurseryPlaces$Child" 46 4 11 := InT.of 202 rfl rfl
set_option maxRecDepth 100000 in
theorem f_Ch_49 : LkF "NurseryPlaces$Child" 49 4 12 := InT.of 205 rfl rfl
set_option maxRecDepth 100000 in
theorem f_Ch_52 : LkF "NurseryPlaces$Child" 52 4 13 := InT.of 208 rfl rfl
set_option maxRecDepth 100000 in
theorem f_Hi_22 : LkF "NurseryPlaces$History" 22 5 2 := InT.of 317 rfl rfl
set_option maxRecDepth 100000 in
theorem f_Hi_18 : LkF "NurseryPlaces$History" 18 5 1 := InT.of 316 rfl rfl
set_option maxRecDepth 100000 in
theorem f_Md_7 : LkF "NurseryPlacesModel" 7 7 0 := InT.of 893 rfl rfl
set_option maxRecDepth 100000 in
theorem f_Md_13 : LkF "NurseryPlacesModel" 13 7 1 := InT.of 894 rfl rfl
set_option maxRecDepth 100000 in
theorem f_Md_41 : LkF "NurseryPlacesModel" 41 7 4 := InT.of 897 rfl rfl
set_option maxRecDepth 100000 in
theorem f_Md_45 : LkF "NurseryPlacesModel" 45 7 3 := InT.of 896 rfl rfl
set_option maxRecDepth 100000 in
theorem f_Md_16 : LkF "NurseryPlacesModel" 16 7 2 := InT.of 895 rfl rfl
set_option maxRecDepth 100000 in
theorem f_Md_191 : LkF "NurseryPlacesModel" 191 7 12 := InT.of 905 rfl rfl
set_option maxRecDepth 100000 in
theorem f_Md_173 : LkF "NurseryPlacesModel" 173 7 8 := InT.of 901 rfl rfl
set_option maxRecDepth 100000 in
theorem f_Md_26 : LkF "NurseryPlacesModel" 26 7 7 := InT.of 900 rfl rfl
set_option maxRecDepth 100000 in
theorem f_Pd_23 : LkF "NurseryPlaces$Pad" 23 6 1 := InT.of 333 rfl rfl
set_option maxRecDepth 100000 in
theorem f_Pd_55 : LkF "NurseryPlaces$Pad" 55 6 5 := InT.of 340 rfl rfl
set_option maxRecDepth 100000 in
theorem f_Pd_15 : LkF "NurseryPlaces$Pad" 15 6 4 := InT.of 338 rfl rfl
set_option maxRecDepth 100000 in
theorem f_Pd_33 : LkF "NurseryPlaces$Pad" 33 6 2 := InT.of 335 rfl rfl
set_option maxRecDepth 100000 in
theorem f_Pd_9 : LkF "NurseryPlaces$Pad" 9 6 0 := InT.of 332 rfl rfl
set_option maxRecDepth 100000 in
theorem f_Rm_7 : LkF "NurseryPlaces$Room" 7 2 0 := InT.of 95 rfl rfl
set_option maxRecDepth 100000 in
theorem f_Rm_13 : LkF "NurseryPlaces$Room" 13 2 1 := InT.of 98 rfl rfl
set_option maxRecDepth 100000 in
theorem f_Rm_16 : LkF "NurseryPlaces$Room" 16 2 2 := InT.of 101 rfl rfl
set_option maxRecDepth 100000 in
theorem f_Rm_19 : LkF "NurseryPlaces$Room" 19 2 3 := InT.of 104 rfl rfl
set_option maxRecDepth 100000 in
theorem f_St_46 : LkF "NurseryPlaces$State" 46 1 5 := InT.of 259 rfl rfl
set_option maxRecDepth 100000 in
theorem f_St_23 : LkF "NurseryPlaces$State" 23 1 2 := InT.of 248 rfl rfl
set_option maxRecDepth 100000 in
theorem f_St_110 : LkF "NurseryPlaces$State" 110 3 0 := InT.of 123 rfl rfl
set_option maxRecDepth 100000 in
theorem f_St_49 : LkF "NurseryPlaces$State" 49 1 6 := InT.of 262 rfl rfl
set_option maxRecDepth 100000 in
theorem f_St_29 : LkF "NurseryPlaces$State" 29 1 3 := InT.of 251 rfl rfl
set_option maxRecDepth 100000 in
theorem f_St_129 : LkF "NurseryPlaces$State" 129 4 3 := InT.of 168 rfl rfl
set_option maxRecDepth 100000 in
theorem f_St_162 : LkF "NurseryPlaces$State" 162 4 4 := InT.of 175 rfl rfl
set_option maxRecDepth 100000 in
theorem f_St_42 : LkF "NurseryPlaces$State" 42 1 4 := InT.of 256 rfl rfl
set_option maxRecDepth 100000 in
theorem f_St_113 : LkF "NurseryPlaces$State" 113 3 1 := InT.of 126 rfl rfl
set_option maxRecDepth 100000 in
theorem f_St_116 : LkF "NurseryPlaces$State" 116 3 2 := InT.of 129 rfl rfl
set_option maxRecDepth 100000 in
theorem f_St_117 : LkF "NurseryPlaces$State" 117 3 3 := InT.of 132 rfl rfl
set_option maxRecDepth 100000 in
theorem f_St_118 : LkF "NurseryPlaces$State" 118 3 4 := InT.of 135 rfl rfl
set_option maxRecDepth 100000 in
theorem f_St_178 : LkF "NurseryPlaces$State" 178 4 8 := InT.of 195 rfl rfl
set_option maxRecDepth 100000 in
theorem f_St_175 : LkF "NurseryPlaces$State" 175 4 6 := InT.of 187 rfl rfl
set_option maxRecDepth 100000 in
theorem f_Str_38 : InT (.fieldLink "java/lang/String" 38 "java/lang/String" "COMPACT_STRINGS" "Z") := InT.of 790 rfl rfl
set_option maxRecDepth 100000 in
theorem f_Str_15 : InT (.fieldLink "java/lang/String" 15 "java/lang/String" "coder" "B") := InT.of 1251 rfl rfl
set_option maxRecDepth 100000 in
theorem f_Wk_31 : LkF "NurseryPlaces$Week" 31 1 7 := InT.of 268 rfl rfl
set_option maxRecDepth 100000 in
theorem f_Wk_136 : LkF "NurseryPlaces$Week" 136 1 5 := InT.of 260 rfl rfl
set_option maxRecDepth 100000 in
theorem f_Wk_139 : LkF "NurseryPlaces$Week" 139 1 2 := InT.of 249 rfl rfl
set_option maxRecDepth 100000 in
theorem f_Wk_143 : LkF "NurseryPlaces$Week" 143 3 4 := InT.of 136 rfl rfl
set_option maxRecDepth 100000 in
theorem f_Wk_70 : LkF "NurseryPlaces$Week" 70 1 6 := InT.of 265 rfl rfl
set_option maxRecDepth 100000 in
theorem f_Wk_60 : LkF "NurseryPlaces$Week" 60 1 3 := InT.of 254 rfl rfl
set_option maxRecDepth 100000 in
theorem f_Wk_148 : LkF "NurseryPlaces$Week" 148 4 8 := InT.of 193 rfl rfl
set_option maxRecDepth 100000 in
theorem f_Wk_133 : LkF "NurseryPlaces$Week" 133 4 3 := InT.of 169 rfl rfl
set_option maxRecDepth 100000 in
theorem f_Wk_151 : LkF "NurseryPlaces$Week" 151 4 0 := InT.of 156 rfl rfl
set_option maxRecDepth 100000 in
theorem f_Wk_126 : LkF "NurseryPlaces$Week" 126 4 1 := InT.of 160 rfl rfl
set_option maxRecDepth 100000 in
theorem f_Wk_129 : LkF "NurseryPlaces$Week" 129 1 0 := InT.of 243 rfl rfl
set_option maxRecDepth 100000 in
theorem f_Wk_103 : LkF "NurseryPlaces$Week" 103 4 6 := InT.of 185 rfl rfl
set_option maxRecDepth 100000 in
theorem f_Wk_110 : LkF "NurseryPlaces$Week" 110 4 7 := InT.of 189 rfl rfl
set_option maxRecDepth 100000 in
theorem m_Ch_62 : InT (.methodLink "NurseryPlaces$Child" 62 (hY h_Ch_has)) := InT.of 619 rfl rfl
set_option maxRecDepth 100000 in
theorem m_Ch_59 : InT (.methodLink "NurseryPlaces$Child" 59 (hY h_Ch_quitRoom)) := InT.of 461 rfl rfl
set_option maxRecDepth 100000 in
theorem m_Md_92 : InT (.methodLink "NurseryPlacesModel" 92 (hY h_Md_put3)) := InT.of 973 rfl rfl
set_option maxRecDepth 100000 in
theorem m_Md_53 : InT (.methodLink "NurseryPlacesModel" 53 (hY h_Md_has)) := InT.of 1024 rfl rfl
set_option maxRecDepth 100000 in
theorem m_Md_49 : InT (.methodLink "NurseryPlacesModel" 49 (hY h_Md_in)) := InT.of 943 rfl rfl
set_option maxRecDepth 100000 in
theorem m_Md_78 : InT (.methodLink "NurseryPlacesModel" 78 (hY h_Md_record)) := InT.of 946 rfl rfl
set_option maxRecDepth 100000 in
theorem f_Md_38 : LkF "NurseryPlacesModel" 38 7 14 := InT.of 907 rfl rfl
set_option maxRecDepth 100000 in
theorem m_Md_61 : InT (.methodLink "NurseryPlacesModel" 61 (hY h_Md_of)) := InT.of 985 rfl rfl
set_option maxRecDepth 100000 in
theorem f_Md_22 : LkF "NurseryPlacesModel" 22 7 6 := InT.of 899 rfl rfl
set_option maxRecDepth 100000 in
theorem f_Md_19 : LkF "NurseryPlacesModel" 19 7 5 := InT.of 898 rfl rfl
set_option maxRecDepth 100000 in
theorem f_Md_29 : LkF "NurseryPlacesModel" 29 7 9 := InT.of 902 rfl rfl
set_option maxRecDepth 100000 in
theorem f_Md_32 : LkF "NurseryPlacesModel" 32 7 10 := InT.of 903 rfl rfl
set_option maxRecDepth 100000 in
theorem m_N_99 : InT (.methodLink "NurseryPlaces" 99 (hY h_N_isWithin)) := InT.of 440 rfl rfl
set_option maxRecDepth 100000 in
theorem f_N_10 : LkF "NurseryPlaces" 10 0 0 := InT.of 356 rfl rfl
set_option maxRecDepth 100000 in
theorem m_N_202 : InT (.methodLink "NurseryPlaces" 202 (hY h_St_childrenInState)) := InT.of 689 rfl rfl
set_option maxRecDepth 100000 in
theorem f_N_205 : LkF "NurseryPlaces" 205 1 0 := InT.of 244 rfl rfl
set_option maxRecDepth 100000 in
theorem f_N_209 : LkF "NurseryPlaces" 209 1 7 := InT.of 269 rfl rfl
set_option maxRecDepth 100000 in
theorem f_N_212 : LkF "NurseryPlaces" 212 1 4 := InT.of 258 rfl rfl
set_option maxRecDepth 100000 in
theorem f_N_215 : LkF "NurseryPlaces" 215 1 5 := InT.of 261 rfl rfl
set_option maxRecDepth 100000 in
theorem f_N_218 : LkF "NurseryPlaces" 218 1 6 := InT.of 266 rfl rfl
set_option maxRecDepth 100000 in
theorem m_N_221 : InT (.methodLink "NurseryPlaces" 221 (hY h_St_settledChildren)) := InT.of 690 rfl rfl
set_option maxRecDepth 100000 in
theorem f_N_225 : LkF "NurseryPlaces" 225 1 9 := InT.of 274 rfl rfl
set_option maxRecDepth 100000 in
theorem f_N_226 : LkF "NurseryPlaces" 226 1 10 := InT.of 277 rfl rfl
set_option maxRecDepth 100000 in
theorem f_N_229 : LkF "NurseryPlaces" 229 1 11 := InT.of 280 rfl rfl
set_option maxRecDepth 100000 in
theorem m_N_230 : InT (.methodLink "NurseryPlaces" 230 (hY h_St_plannedVisits)) := InT.of 694 rfl rfl
set_option maxRecDepth 100000 in
theorem f_N_37 : LkF "NurseryPlaces" 37 0 5 := InT.of 361 rfl rfl
set_option maxRecDepth 100000 in
theorem f_N_233 : LkF "NurseryPlaces" 233 6 1 := InT.of 334 rfl rfl
set_option maxRecDepth 100000 in
theorem f_N_22 : LkF "NurseryPlaces" 22 0 2 := InT.of 358 rfl rfl
set_option maxRecDepth 100000 in
theorem f_N_236 : LkF "NurseryPlaces" 236 5 2 := InT.of 318 rfl rfl
set_option maxRecDepth 100000 in
theorem m_N_135 : InT (.methodLink "NurseryPlaces" 135 (hY h_St_hasCarer)) := InT.of 679 rfl rfl
set_option maxRecDepth 100000 in
theorem f_N_138 : LkF "NurseryPlaces" 138 1 2 := InT.of 250 rfl rfl
set_option maxRecDepth 100000 in
theorem f_N_142 : LkF "NurseryPlaces" 142 3 0 := InT.of 124 rfl rfl
set_option maxRecDepth 100000 in
theorem f_N_147 : LkF "NurseryPlaces" 147 3 1 := InT.of 127 rfl rfl
set_option maxRecDepth 100000 in
theorem f_N_150 : LkF "NurseryPlaces" 150 3 2 := InT.of 130 rfl rfl
set_option maxRecDepth 100000 in
theorem f_N_151 : LkF "NurseryPlaces" 151 3 3 := InT.of 133 rfl rfl
set_option maxRecDepth 100000 in
theorem f_N_152 : LkF "NurseryPlaces" 152 3 4 := InT.of 137 rfl rfl
set_option maxRecDepth 100000 in
theorem m_N_156 : InT (.methodLink "NurseryPlaces" 156 (hY h_St_hasChild)) := InT.of 684 rfl rfl
set_option maxRecDepth 100000 in
theorem f_N_159 : LkF "NurseryPlaces" 159 1 3 := InT.of 255 rfl rfl
set_option maxRecDepth 100000 in
theorem f_N_163 : LkF "NurseryPlaces" 163 4 0 := InT.of 157 rfl rfl
set_option maxRecDepth 100000 in
theorem f_N_168 : LkF "NurseryPlaces" 168 4 1 := InT.of 161 rfl rfl
set_option maxRecDepth 100000 in
theorem f_N_171 : LkF "NurseryPlaces" 171 4 2 := InT.of 164 rfl rfl
set_option maxRecDepth 100000 in
theorem f_N_174 : LkF "NurseryPlaces" 174 4 3 := InT.of 170 rfl rfl
set_option maxRecDepth 100000 in
theorem f_N_177 : LkF "NurseryPlaces" 177 4 4 := InT.of 176 rfl rfl
set_option maxRecDepth 100000 in
theorem f_N_178 : LkF "NurseryPlaces" 178 4 5 := InT.of 181 rfl rfl
set_option maxRecDepth 100000 in
theorem f_N_181 : LkF "NurseryPlaces" 181 4 6 := InT.of 186 rfl rfl
set_option maxRecDepth 100000 in
theorem f_N_184 : LkF "NurseryPlaces" 184 4 7 := InT.of 190 rfl rfl
set_option maxRecDepth 100000 in
theorem f_N_187 : LkF "NurseryPlaces" 187 4 8 := InT.of 194 rfl rfl
set_option maxRecDepth 100000 in
theorem f_N_190 : LkF "NurseryPlaces" 190 4 9 := InT.of 198 rfl rfl
set_option maxRecDepth 100000 in
theorem f_N_193 : LkF "NurseryPlaces" 193 4 10 := InT.of 201 rfl rfl
set_option maxRecDepth 100000 in
theorem f_N_196 : LkF "NurseryPlaces" 196 4 11 := InT.of 204 rfl rfl
set_option maxRecDepth 100000 in
theorem f_N_199 : LkF "NurseryPlaces" 199 4 12 := InT.of 207 rfl rfl
set_option maxRecDepth 100000 in
theorem m_N_273 : InT (.methodLink "NurseryPlaces" 273 (hY h_Pd_clear)) := InT.of 754 rfl rfl
set_option maxRecDepth 100000 in
theorem m_Pd_29 : InT (.methodLinkNest "NurseryPlaces$Pad" 29 (hY h_N_isWithin) "NurseryPlaces") := InT.of 749 rfl rfl
set_option maxRecDepth 100000 in
theorem m_St_77 : InT (.methodLinkNest "NurseryPlaces$State" 77 (hY h_N_isWithin) "NurseryPlaces") := InT.of 406 rfl rfl
set_option maxRecDepth 100000 in
theorem f_St_17 : LkF "NurseryPlaces$State" 17 1 1 := InT.of 245 rfl rfl
set_option maxRecDepth 100000 in
theorem f_St_87 : LkF "NurseryPlaces$State" 87 2 0 := InT.of 96 rfl rfl
set_option maxRecDepth 100000 in
theorem f_St_90 : LkF "NurseryPlaces$State" 90 2 1 := InT.of 99 rfl rfl
set_option maxRecDepth 100000 in
theorem f_St_93 : LkF "NurseryPlaces$State" 93 2 2 := InT.of 102 rfl rfl
set_option maxRecDepth 100000 in
theorem f_St_96 : LkF "NurseryPlaces$State" 96 2 3 := InT.of 105 rfl rfl
set_option maxRecDepth 100000 in
theorem f_St_81 : InT (.fieldLinkNest "NurseryPlaces$State" 81 "NurseryPlaces" "LOWEST_SETTING" "[I" "NurseryPlaces") := InT.of 409 rfl rfl
set_option maxRecDepth 100000 in
theorem f_St_84 : InT (.fieldLinkNest "NurseryPlaces$State" 84 "NurseryPlaces" "HIGHEST_SETTING" "[I" "NurseryPlaces") := InT.of 411 rfl rfl
set_option maxRecDepth 100000 in
theorem f_St_9 : LkF "NurseryPlaces$State" 9 1 0 := InT.of 240 rfl rfl
set_option maxRecDepth 100000 in
theorem m_St_36 : InT (.methodLink "NurseryPlaces$State" 36 (arraycopyName)) := InT.of 387 rfl rfl
set_option maxRecDepth 100000 in
theorem f_St_52 : LkF "NurseryPlaces$State" 52 1 7 := InT.of 267 rfl rfl
set_option maxRecDepth 100000 in
theorem f_St_55 : LkF "NurseryPlaces$State" 55 1 8 := InT.of 270 rfl rfl
set_option maxRecDepth 100000 in
theorem f_St_58 : LkF "NurseryPlaces$State" 58 1 9 := InT.of 272 rfl rfl
set_option maxRecDepth 100000 in
theorem f_St_61 : LkF "NurseryPlaces$State" 61 1 10 := InT.of 275 rfl rfl
set_option maxRecDepth 100000 in
theorem f_St_64 : LkF "NurseryPlaces$State" 64 1 11 := InT.of 278 rfl rfl
set_option maxRecDepth 100000 in
theorem m_St_67 : InT (.methodLink "NurseryPlaces$State" 67 (hY h_Rm_copyFrom)) := InT.of 390 rfl rfl
set_option maxRecDepth 100000 in
theorem m_St_71 : InT (.methodLink "NurseryPlaces$State" 71 (hY h_Ca_copyFrom)) := InT.of 394 rfl rfl
set_option maxRecDepth 100000 in
theorem m_St_74 : InT (.methodLink "NurseryPlaces$State" 74 (hY h_Ch_copyFrom)) := InT.of 398 rfl rfl
set_option maxRecDepth 100000 in
theorem m_St_126 : InT (.methodLink "NurseryPlaces$State" 126 (hY h_St_hasChild)) := InT.of 473 rfl rfl
set_option maxRecDepth 100000 in
theorem m_St_132 : InT (.methodLink "NurseryPlaces$State" 132 (hY h_Ch_quitRoom)) := InT.of 477 rfl rfl
set_option maxRecDepth 100000 in
theorem m_St_136 : InT (.methodLink "NurseryPlaces$State" 136 (hY h_St_childrenInState)) := InT.of 478 rfl rfl
set_option maxRecDepth 100000 in
theorem m_St_140 : InT (.methodLink "NurseryPlaces$State" 140 (hY h_Int_bitCount)) := InT.of 482 rfl rfl
set_option maxRecDepth 100000 in
theorem m_St_99 : InT (.methodLink "NurseryPlaces$State" 99 (hY h_St_hasRoom)) := InT.of 433 rfl rfl
set_option maxRecDepth 100000 in
theorem m_St_148 : InT (.methodLink "NurseryPlaces$State" 148 (hY h_Ca_isOnDuty)) := InT.of 531 rfl rfl
set_option maxRecDepth 100000 in
theorem m_St_152 : InT (.methodLink "NurseryPlaces$State" 152 (Lib.Math.min.name)) := InT.of 535 rfl rfl
set_option maxRecDepth 100000 in
theorem m_St_145 : InT (.methodLink "NurseryPlaces$State" 145 (hY h_St_hasCarer)) := InT.of 594 rfl rfl
set_option maxRecDepth 100000 in
theorem m_St_172 : InT (.methodLink "NurseryPlaces$State" 172 (hY h_Rm_isFor)) := InT.of 508 rfl rfl
set_option maxRecDepth 100000 in
theorem m_St_163 : InT (.methodLink "NurseryPlaces$State" 163 (hY h_Ch_has)) := InT.of 523 rfl rfl
set_option maxRecDepth 100000 in
theorem f_Str_1053 : InT (.fieldLink "java/lang/String" 1053 "jdk/internal/util/Preconditions" "SIOOBE_FORMATTER" "Ljava/util/function/BiFunction;") := InT.of 806 rfl rfl
set_option maxRecDepth 100000 in
theorem m_Str_1059 : InT (.methodLink "java/lang/String" 1059 (hY h_Pre_checkIndex)) := InT.of 808 rfl rfl
set_option maxRecDepth 100000 in
theorem f_Str_9 : InT (.fieldLink "java/lang/String" 9 "java/lang/String" "value" "[B") := InT.of 1250 rfl rfl
set_option maxRecDepth 100000 in
theorem m_Str_335 : InT (.methodLink "java/lang/String" 335 (hY h_Str_coder)) := InT.of 786 rfl rfl
set_option maxRecDepth 100000 in
theorem f_Wk_113 : LkF "NurseryPlaces$Week" 113 1 10 := InT.of 276 rfl rfl
set_option maxRecDepth 100000 in
theorem m_Wk_116 : InT (.methodLink "NurseryPlaces$Week" 116 (hY h_Wk_feeFor)) := InT.of 636 rfl rfl
set_option maxRecDepth 100000 in
theorem f_Wk_119 : LkF "NurseryPlaces$Week" 119 4 9 := InT.of 197 rfl rfl
set_option maxRecDepth 100000 in
theorem f_Wk_122 : LkF "NurseryPlaces$Week" 122 4 11 := InT.of 203 rfl rfl
set_option maxRecDepth 100000 in
theorem f_Wk_125 : LkF "NurseryPlaces$Week" 125 1 9 := InT.of 273 rfl rfl
set_option maxRecDepth 100000 in
theorem f_Wk_186 : LkF "NurseryPlaces$Week" 186 4 12 := InT.of 206 rfl rfl
set_option maxRecDepth 100000 in
theorem m_Wk_173 : InT (.methodLink "NurseryPlaces$Week" 173 (hY h_Ch_quitRoom)) := InT.of 654 rfl rfl
set_option maxRecDepth 100000 in
theorem m_Wk_73 : InT (.methodLinkNest "NurseryPlaces$Week" 73 (hY h_N_holds) "NurseryPlaces") := InT.of 631 rfl rfl
set_option maxRecDepth 100000 in
theorem f_Wk_107 : LkF "NurseryPlaces$Week" 107 4 13 := InT.of 210 rfl rfl
set_option maxRecDepth 100000 in
theorem m_Ch_55 : InT (.methodLink "NurseryPlaces$Child" 55 (hY h_Ch_waitAgain)) := InT.of 457 rfl rfl
set_option maxRecDepth 100000 in
theorem f_Hi_13 : LkF "NurseryPlaces$History" 13 5 0 := InT.of 315 rfl rfl
set_option maxRecDepth 100000 in
theorem m_Hi_25 : InT (.methodLink "NurseryPlaces$History" 25 (hY h_St_copyFrom)) := InT.of 383 rfl rfl
set_option maxRecDepth 100000 in
theorem m_Md_81 : InT (.methodLink "NurseryPlacesModel" 81 (hY h_Md_isRoom)) := InT.of 958 rfl rfl
set_option maxRecDepth 100000 in
theorem m_Md_85 : InT (.methodLink "NurseryPlacesModel" 85 (hY h_Md_isShift)) := InT.of 962 rfl rfl
set_option maxRecDepth 100000 in
theorem m_Md_88 : InT (.methodLink "NurseryPlacesModel" 88 (hY h_Md_hires)) := InT.of 965 rfl rfl
set_option maxRecDepth 100000 in
theorem m_Md_194 : InT (.methodLink "NurseryPlacesModel" 194 (hY h_Md_number)) := InT.of 1207 rfl rfl
set_option maxRecDepth 100000 in
theorem m_Md_197 : InT (.methodLink "NurseryPlacesModel" 197 (hY h_Md_sign)) := InT.of 1211 rfl rfl
set_option maxRecDepth 100000 in
theorem m_Md_200 : InT (.methodLink "NurseryPlacesModel" 200 (hY h_Md_digit)) := InT.of 1219 rfl rfl
set_option maxRecDepth 100000 in
theorem m_Md_103 : InT (.methodLink "NurseryPlacesModel" 103 (hY h_Md_inState)) := InT.of 993 rfl rfl
set_option maxRecDepth 100000 in
theorem m_Md_170 : InT (.methodLink "NurseryPlacesModel" 170 (hY h_Md_settledSet)) := InT.of 1138 rfl rfl
set_option maxRecDepth 100000 in
theorem m_Md_135 : InT (.methodLink "NurseryPlacesModel" 135 (hY h_Md_plannedMany)) := InT.of 1062 rfl rfl
set_option maxRecDepth 100000 in
theorem m_Md_96 : InT (.methodLink "NurseryPlacesModel" 96 (hY h_Md_isChild)) := InT.of 981 rfl rfl
set_option maxRecDepth 100000 in
theorem m_Md_129 : InT (.methodLink "NurseryPlacesModel" 129 (hY h_Md_isSession)) := InT.of 1055 rfl rfl
set_option maxRecDepth 100000 in
theorem m_Md_107 : InT (.methodLink "NurseryPlacesModel" 107 (hY h_Md_ones)) := InT.of 997 rfl rfl
set_option maxRecDepth 100000 in
theorem m_Md_65 : InT (.methodLink "NurseryPlacesModel" 65 (hY h_Md_isIn)) := InT.of 1035 rfl rfl
set_option maxRecDepth 100000 in
theorem m_Md_99 : InT (.methodLink "NurseryPlacesModel" 99 (hY h_Md_becomes)) := InT.of 989 rfl rfl
set_option maxRecDepth 100000 in
theorem m_Md_142 : InT (.methodLink "NurseryPlacesModel" 142 (hY h_Md_isCarer)) := InT.of 1082 rfl rfl
set_option maxRecDepth 100000 in
theorem m_Md_151 : InT (.methodLink "NurseryPlacesModel" 151 (hY h_Md_priceFor)) := InT.of 1110 rfl rfl
set_option maxRecDepth 100000 in
theorem f_Md_35 : LkF "NurseryPlacesModel" 35 7 11 := InT.of 904 rfl rfl
set_option maxRecDepth 100000 in
theorem m_Md_57 : InT (.methodLink "NurseryPlacesModel" 57 (hY h_Md_carersAt)) := InT.of 1043 rfl rfl
set_option maxRecDepth 100000 in
theorem m_N_95 : InT (.methodLink "NurseryPlaces" 95 (hY h_St_hasRoom)) := InT.of 664 rfl rfl
set_option maxRecDepth 100000 in
theorem m_N_239 : InT (.methodLink "NurseryPlaces" 239 (hY h_N_isSession)) := InT.of 699 rfl rfl
set_option maxRecDepth 100000 in
theorem m_N_103 : InT (.methodLink "NurseryPlaces" 103 (hY h_St_placesIn)) := InT.of 665 rfl rfl
set_option maxRecDepth 100000 in
theorem m_N_107 : InT (.methodLink "NurseryPlaces" 107 (hY h_St_takenIn)) := InT.of 666 rfl rfl
set_option maxRecDepth 100000 in
theorem m_N_242 : InT (.methodLink "NurseryPlaces" 242 (Lib.Math.max.name)) := InT.of 700 rfl rfl
set_option maxRecDepth 100000 in
theorem f_N_110 : LkF "NurseryPlaces" 110 1 1 := InT.of 247 rfl rfl
set_option maxRecDepth 100000 in
theorem f_N_114 : LkF "NurseryPlaces" 114 2 0 := InT.of 97 rfl rfl
set_option maxRecDepth 100000 in
theorem f_N_120 : LkF "NurseryPlaces" 120 2 1 := InT.of 100 rfl rfl
set_option maxRecDepth 100000 in
theorem f_N_123 : LkF "NurseryPlaces" 123 2 2 := InT.of 103 rfl rfl
set_option maxRecDepth 100000 in
theorem f_N_126 : LkF "NurseryPlaces" 126 2 3 := InT.of 106 rfl rfl
set_option maxRecDepth 100000 in
theorem m_N_129 : InT (.methodLink "NurseryPlaces" 129 (hY h_St_carersOf)) := InT.of 667 rfl rfl
set_option maxRecDepth 100000 in
theorem m_N_132 : InT (.methodLink "NurseryPlaces" 132 (hY h_St_childrenOf)) := InT.of 671 rfl rfl
set_option maxRecDepth 100000 in
theorem m_N_299 : InT (.methodLink "NurseryPlaces" 299 (hY h_N_isSlot)) := InT.of 880 rfl rfl
set_option maxRecDepth 100000 in
theorem f_N_26 : LkF "NurseryPlaces" 26 0 3 := InT.of 359 rfl rfl
set_option maxRecDepth 100000 in
theorem m_N_250 : InT (.methodLink "NurseryPlaces" 250 (hY h_St_copyFrom)) := InT.of 710 rfl rfl
set_option maxRecDepth 100000 in
theorem f_N_30 : LkF "NurseryPlaces" 30 0 4 := InT.of 360 rfl rfl
set_option maxRecDepth 100000 in
theorem m_Pd_19 : InT (.methodLink "NurseryPlaces$Pad" 19 (hY h_Pd_countIn)) := InT.of 745 rfl rfl
set_option maxRecDepth 100000 in
theorem m_Pd_86 : InT (.methodLink "NurseryPlaces$Pad" 86 (hY h_Pd_isAtDigit)) := InT.of 838 rfl rfl
set_option maxRecDepth 100000 in
theorem m_Pd_89 : InT (.methodLink "NurseryPlaces$Pad" 89 (hY h_Pd_keepNumber)) := InT.of 842 rfl rfl
set_option maxRecDepth 100000 in
theorem m_Se_9 : InT (.methodLink "NurseryPlaces$Sessions" 9 (hY h_St_hasChild)) := InT.of 550 rfl rfl
set_option maxRecDepth 100000 in
theorem m_Se_15 : InT (.methodLinkNest "NurseryPlaces$Sessions" 15 (hY h_N_isSession) "NurseryPlaces") := InT.of 551 rfl rfl
set_option maxRecDepth 100000 in
theorem f_Se_18 : LkF "NurseryPlaces$Sessions" 18 1 3 := InT.of 252 rfl rfl
set_option maxRecDepth 100000 in
theorem m_Se_35 : InT (.methodLink "NurseryPlaces$Sessions" 35 (hY h_Ch_has)) := InT.of 554 rfl rfl
set_option maxRecDepth 100000 in
theorem f_Se_66 : LkF "NurseryPlaces$Sessions" 66 4 5 := InT.of 178 rfl rfl
set_option maxRecDepth 100000 in
theorem m_Se_73 : InT (.methodLink "NurseryPlaces$Sessions" 73 (hY h_Int_bitCount)) := InT.of 585 rfl rfl
set_option maxRecDepth 100000 in
theorem f_Se_79 : LkF "NurseryPlaces$Sessions" 79 1 0 := InT.of 242 rfl rfl
set_option maxRecDepth 100000 in
theorem m_Se_51 : InT (.methodLink "NurseryPlaces$Sessions" 51 (hY h_St_takenIn)) := InT.of 558 rfl rfl
set_option maxRecDepth 100000 in
theorem f_Se_55 : LkF "NurseryPlaces$Sessions" 55 1 6 := InT.of 264 rfl rfl
set_option maxRecDepth 100000 in
theorem f_Se_38 : LkF "NurseryPlaces$Sessions" 38 4 4 := InT.of 172 rfl rfl
set_option maxRecDepth 100000 in
theorem f_Se_32 : LkF "NurseryPlaces$Sessions" 32 4 8 := InT.of 191 rfl rfl
set_option maxRecDepth 100000 in
theorem m_Se_58 : InT (.methodLink "NurseryPlaces$Sessions" 58 (hY h_St_placesIn)) := InT.of 559 rfl rfl
set_option maxRecDepth 100000 in
theorem m_Sl_9 : InT (.methodLink "java/lang/StringLatin1" 9 (hY h_Str_checkIndex)) := InT.of 803 rfl rfl
set_option maxRecDepth 100000 in
theorem m_St_103 : InT (.methodLinkNest "NurseryPlaces$State" 103 (hY h_N_isShift) "NurseryPlaces") := InT.of 437 rfl rfl
set_option maxRecDepth 100000 in
theorem m_St_106 : InT (.methodLink "NurseryPlaces$State" 106 (hY h_St_hire)) := InT.of 441 rfl rfl
set_option maxRecDepth 100000 in
theorem m_St_166 : InT (.methodLink "NurseryPlaces$State" 166 (hY h_St_takenIn)) := InT.of 519 rfl rfl
set_option maxRecDepth 100000 in
theorem m_St_158 : InT (.methodLink "NurseryPlaces$State" 158 (hY h_St_placesIn)) := InT.of 527 rfl rfl
set_option maxRecDepth 100000 in
theorem m_St_169 : InT (.methodLinkNest "NurseryPlaces$State" 169 (hY h_N_holds) "NurseryPlaces") := InT.of 516 rfl rfl
set_option maxRecDepth 100000 in
theorem f_Wk_81 : LkF "NurseryPlaces$Week" 81 4 4 := InT.of 174 rfl rfl
set_option maxRecDepth 100000 in
theorem m_Wk_84 : InT (.methodLink "NurseryPlaces$Week" 84 (hY h_Ch_comesTo)) := InT.of 615 rfl rfl
set_option maxRecDepth 100000 in
theorem m_Wk_87 : InT (.methodLink "NurseryPlaces$Week" 87 (hY h_Int_bitCount)) := InT.of 623 rfl rfl
set_option maxRecDepth 100000 in
theorem m_Wk_93 : InT (.methodLink "NurseryPlaces$Week" 93 (hY h_St_placesIn)) := InT.of 624 rfl rfl
set_option maxRecDepth 100000 in
theorem m_Wk_97 : InT (.methodLink "NurseryPlaces$Week" 97 (Lib.Math.max.name)) := InT.of 625 rfl rfl
set_option maxRecDepth 100000 in
theorem f_Ad_52 : LkF "NurseryPlaces$Admission" 52 4 0 := InT.of 155 rfl rfl
set_option maxRecDepth 100000 in
theorem m_Ad_55 : InT (.methodLink "NurseryPlaces$Admission" 55 (hY h_St_roomOfAge)) := InT.of 504 rfl rfl
set_option maxRecDepth 100000 in
theorem f_Ad_76 : LkF "NurseryPlaces$Admission" 76 4 2 := InT.of 163 rfl rfl
set_option maxRecDepth 100000 in
theorem m_Ad_79 : InT (.methodLink "NurseryPlaces$Admission" 79 (hY h_St_openOnes)) := InT.of 512 rfl rfl
set_option maxRecDepth 100000 in
theorem m_Ad_83 : InT (.methodLink "NurseryPlaces$Admission" 83 (hY h_Int_bitCount)) := InT.of 538 rfl rfl
set_option maxRecDepth 100000 in
theorem f_Ad_62 : LkF "NurseryPlaces$Admission" 62 1 0 := InT.of 241 rfl rfl
set_option maxRecDepth 100000 in
theorem m_Md_71 : InT (.methodLink "NurseryPlacesModel" 71 (hY h_Md_places)) := InT.of 1039 rfl rfl
set_option maxRecDepth 100000 in
theorem m_Md_145 : InT (.methodLink "NurseryPlacesModel" 145 (hY h_Md_isVisiting)) := InT.of 1102 rfl rfl
set_option maxRecDepth 100000 in
theorem m_Md_68 : InT (.methodLink "NurseryPlacesModel" 68 (hY h_Md_taken)) := InT.of 1031 rfl rfl
set_option maxRecDepth 100000 in
theorem f_Md_203 : LkF "NurseryPlacesModel" 203 7 13 := InT.of 906 rfl rfl
set_option maxRecDepth 100000 in
theorem m_Md_206 : InT (.methodLink "NurseryPlacesModel" 206 (hY h_Md_childAt)) := InT.of 1215 rfl rfl
set_option maxRecDepth 100000 in
theorem m_Md_132 : InT (.methodLink "NurseryPlacesModel" 132 (hY h_Md_guests)) := InT.of 1058 rfl rfl
set_option maxRecDepth 100000 in
theorem m_N_41 : InT (.methodLink "NurseryPlaces" 41 (hY h_Hi_note)) := InT.of 379 rfl rfl
set_option maxRecDepth 100000 in
theorem m_N_57 : InT (.methodLink "NurseryPlaces" 57 (hY h_St_addCarer)) := InT.of 429 rfl rfl
set_option maxRecDepth 100000 in
theorem m_N_49 : InT (.methodLink "NurseryPlaces" 49 (hY h_Hi_keepIfDone)) := InT.of 413 rfl rfl
set_option maxRecDepth 100000 in
theorem m_N_83 : InT (.methodLink "NurseryPlaces" 83 (hY h_Se_handBack)) := InT.of 582 rfl rfl
set_option maxRecDepth 100000 in
theorem m_N_64 : InT (.methodLink "NurseryPlaces" 64 (hY h_St_letLeave)) := InT.of 469 rfl rfl
set_option maxRecDepth 100000 in
theorem m_N_260 : InT (.methodLink "NurseryPlaces" 260 (hY h_N_isShift)) := InT.of 727 rfl rfl
set_option maxRecDepth 100000 in
theorem f_N_16 : LkF "NurseryPlaces" 16 0 1 := InT.of 357 rfl rfl
set_option maxRecDepth 100000 in
theorem m_N_263 : InT (.methodLink "NurseryPlaces" 263 (hY h_St_hire)) := InT.of 728 rfl rfl
set_option maxRecDepth 100000 in
theorem m_N_266 : InT (.methodLink "NurseryPlaces" 266 (hY h_St_placesInAll)) := InT.of 729 rfl rfl
set_option maxRecDepth 100000 in
theorem m_N_269 : InT (.methodLink "NurseryPlaces" 269 (hY h_Pd_append)) := InT.of 741 rfl rfl
set_option maxRecDepth 100000 in
theorem m_N_53 : InT (.methodLink "NurseryPlaces" 53 (hY h_St_addRoom)) := InT.of 421 rfl rfl
set_option maxRecDepth 100000 in
theorem m_N_45 : InT (.methodLink "NurseryPlaces" 45 (hY h_St_changeSetting)) := InT.of 402 rfl rfl
set_option maxRecDepth 100000 in
theorem m_N_86 : InT (.methodLink "NurseryPlaces" 86 (hY h_St_reportSick)) := InT.of 590 rfl rfl
set_option maxRecDepth 100000 in
theorem m_N_296 : InT (.methodLink "NurseryPlaces" 296 (hY h_Hi_takeBack)) := InT.of 872 rfl rfl
set_option maxRecDepth 100000 in
theorem m_Pd_80 : InT (.methodLink "NurseryPlaces$Pad" 80 (hY h_Pd_readNumber)) := InT.of 834 rfl rfl
set_option maxRecDepth 100000 in
theorem m_Pd_83 : InT (.methodLink "NurseryPlaces$Pad" 83 (hY h_Pd_readDigit)) := InT.of 846 rfl rfl
set_option maxRecDepth 100000 in
theorem m_Pd_43 : InT (.methodLink "NurseryPlaces$Pad" 43 (hY h_Pd_readSign)) := InT.of 850 rfl rfl
set_option maxRecDepth 100000 in
theorem m_Se_69 : InT (.methodLink "NurseryPlaces$Sessions" 69 (hY h_St_isOpen)) := InT.of 574 rfl rfl
set_option maxRecDepth 100000 in
theorem f_Se_22 : LkF "NurseryPlaces$Sessions" 22 4 3 := InT.of 165 rfl rfl
set_option maxRecDepth 100000 in
theorem f_Se_28 : LkF "NurseryPlaces$Sessions" 28 4 6 := InT.of 182 rfl rfl
set_option maxRecDepth 100000 in
theorem m_Se_41 : InT (.methodLink "NurseryPlaces$Sessions" 41 (hY h_Se_hasPlaceForVisit)) := InT.of 555 rfl rfl
set_option maxRecDepth 100000 in
theorem m_Se_47 : InT (.methodLink "NurseryPlaces$Sessions" 47 (hY h_St_plannedVisits)) := InT.of 560 rfl rfl
set_option maxRecDepth 100000 in
theorem m_St_122 : InT (.methodLink "NurseryPlaces$State" 122 (hY h_Ch_come)) := InT.of 453 rfl rfl
set_option maxRecDepth 100000 in
theorem m_Str_492 : InT (.methodLink "java/lang/String" 492 (hY h_Str_isLatin1)) := InT.of 796 rfl rfl
set_option maxRecDepth 100000 in
theorem m_Str_495 : InT (.methodLink "java/lang/String" 495 (hY h_Sl_charAt)) := InT.of 800 rfl rfl
set_option maxRecDepth 100000 in
theorem f_Wk_37 : LkF "NurseryPlaces$Week" 37 1 4 := InT.of 257 rfl rfl
set_option maxRecDepth 100000 in
theorem m_Wk_44 : InT (.methodLink "NurseryPlaces$Week" 44 (hY h_Wk_comersTo)) := InT.of 612 rfl rfl
set_option maxRecDepth 100000 in
theorem m_Wk_48 : InT (.methodLink "NurseryPlaces$Week" 48 (hY h_Wk_tooMany)) := InT.of 620 rfl rfl
set_option maxRecDepth 100000 in
theorem m_Wk_52 : InT (.methodLink "NurseryPlaces$Week" 52 (hY h_Wk_nextSentHome)) := InT.of 628 rfl rfl
set_option maxRecDepth 100000 in
theorem m_Wk_56 : InT (.methodLink "NurseryPlaces$Week" 56 (hY h_St_hasChild)) := InT.of 632 rfl rfl
set_option maxRecDepth 100000 in
theorem f_Wk_64 : LkF "NurseryPlaces$Week" 64 4 10 := InT.of 200 rfl rfl
set_option maxRecDepth 100000 in
theorem f_Wk_69 : LkF "NurseryPlaces$Week" 69 1 11 := InT.of 279 rfl rfl
set_option maxRecDepth 100000 in
theorem m_Wk_77 : InT (.methodLink "NurseryPlaces$Week" 77 (hY h_Wk_bookCame)) := InT.of 633 rfl rfl
set_option maxRecDepth 100000 in
theorem m_Wk_170 : InT (.methodLink "NurseryPlaces$Week" 170 (hY h_St_roomOfAge)) := InT.of 653 rfl rfl
set_option maxRecDepth 100000 in
theorem f_Wk_177 : LkF "NurseryPlaces$Week" 177 4 5 := InT.of 180 rfl rfl
set_option maxRecDepth 100000 in
theorem m_Wk_180 : InT (.methodLink "NurseryPlaces$Week" 180 (hY h_St_openOnes)) := InT.of 655 rfl rfl
set_option maxRecDepth 100000 in
theorem m_Wk_183 : InT (.methodLink "NurseryPlaces$Week" 183 (hY h_Ch_waitAgain)) := InT.of 656 rfl rfl
set_option maxRecDepth 100000 in
theorem m_Ad_29 : InT (.methodLink "NurseryPlaces$Admission" 29 (hY h_Ad_hasPlacedSibling)) := InT.of 498 rfl rfl
set_option maxRecDepth 100000 in
theorem m_Ad_42 : InT (.methodLink "NurseryPlaces$Admission" 42 (hY h_Ad_sessionsFor)) := InT.of 501 rfl rfl
set_option maxRecDepth 100000 in
theorem f_Ad_49 : LkF "NurseryPlaces$Admission" 49 4 5 := InT.of 179 rfl rfl
set_option maxRecDepth 100000 in
theorem f_Ad_59 : LkF "NurseryPlaces$Admission" 59 4 4 := InT.of 173 rfl rfl
set_option maxRecDepth 100000 in
theorem f_Ad_66 : LkF "NurseryPlaces$Admission" 66 4 6 := InT.of 184 rfl rfl
set_option maxRecDepth 100000 in
theorem f_Ad_70 : LkF "NurseryPlaces$Admission" 70 1 8 := InT.of 271 rfl rfl
set_option maxRecDepth 100000 in
theorem f_Ad_73 : LkF "NurseryPlaces$Admission" 73 4 13 := InT.of 209 rfl rfl
set_option maxRecDepth 100000 in
theorem m_Md_75 : InT (.methodLink "NurseryPlacesModel" 75 (hY h_Md_isFree)) := InT.of 1027 rfl rfl
set_option maxRecDepth 100000 in
theorem m_Md_148 : InT (.methodLink "NurseryPlacesModel" 148 (hY h_Md_come)) := InT.of 1098 rfl rfl
set_option maxRecDepth 100000 in
theorem m_Md_209 : InT (.methodLink "NurseryPlacesModel" 209 (hY h_Md_readOrder)) := InT.of 1203 rfl rfl
set_option maxRecDepth 100000 in
theorem m_Md_182 : InT (.methodLink "NurseryPlacesModel" 182 (hY h_Md_placesWith)) := InT.of 1174 rfl rfl
set_option maxRecDepth 100000 in
theorem m_Md_186 : InT (.methodLink "NurseryPlacesModel" 186 (hY h_Md_allPlaces)) := InT.of 1178 rfl rfl
set_option maxRecDepth 100000 in
theorem m_N_60 : InT (.methodLink "NurseryPlaces" 60 (hY h_St_addChild)) := InT.of 449 rfl rfl
set_option maxRecDepth 100000 in
theorem m_N_253 : InT (.methodLink "NurseryPlaces" 253 (hY h_Se_canExchange)) := InT.of 715 rfl rfl
set_option maxRecDepth 100000 in
theorem m_N_257 : InT (.methodLink "NurseryPlaces" 257 (hY h_Wk_countTooMany)) := InT.of 720 rfl rfl
set_option maxRecDepth 100000 in
theorem m_N_73 : InT (.methodLink "NurseryPlaces" 73 (hY h_Se_planVisit)) := InT.of 547 rfl rfl
set_option maxRecDepth 100000 in
theorem m_N_247 : InT (.methodLink "NurseryPlaces" 247 (hY h_Ad_sessionsFor)) := InT.of 705 rfl rfl
set_option maxRecDepth 100000 in
theorem f_Pd_47 : LkF "NurseryPlaces$Pad" 47 6 3 := InT.of 336 rfl rfl
set_option maxRecDepth 100000 in
theorem m_Pd_51 : InT (.methodLink "NurseryPlaces$Pad" 51 (hY h_Pd_formOf)) := InT.of 774 rfl rfl
set_option maxRecDepth 100000 in
theorem m_Pd_58 : InT (.methodLink "NurseryPlaces$Pad" 58 (hY h_Str_length)) := InT.of 782 rfl rfl
set_option maxRecDepth 100000 in
theorem m_Pd_63 : InT (.methodLink "NurseryPlaces$Pad" 63 (hY h_Str_charAt)) := InT.of 792 rfl rfl
set_option maxRecDepth 100000 in
theorem m_Pd_67 : InT (.methodLink "NurseryPlaces$Pad" 67 (hY h_Pd_readPart)) := InT.of 830 rfl rfl
set_option maxRecDepth 100000 in
theorem m_Se_62 : InT (.methodLink "NurseryPlaces$Sessions" 62 (hY h_Se_canExchange)) := InT.of 571 rfl rfl
set_option maxRecDepth 100000 in
theorem m_Wk_40 : InT (.methodLink "NurseryPlaces$Week" 40 (hY h_Wk_holdSession)) := InT.of 609 rfl rfl
set_option maxRecDepth 100000 in
theorem m_Wk_154 : InT (.methodLink "NurseryPlaces$Week" 154 (hY h_St_hasRoom)) := InT.of 648 rfl rfl
set_option maxRecDepth 100000 in
theorem f_Wk_157 : LkF "NurseryPlaces$Week" 157 1 1 := InT.of 246 rfl rfl
set_option maxRecDepth 100000 in
theorem m_Wk_161 : InT (.methodLink "NurseryPlaces$Week" 161 (hY h_Rm_isFor)) := InT.of 649 rfl rfl
set_option maxRecDepth 100000 in
theorem m_Wk_166 : InT (.methodLink "NurseryPlaces$Week" 166 (hY h_Wk_move)) := InT.of 650 rfl rfl
set_option maxRecDepth 100000 in
theorem m_Ad_9 : InT (.methodLink "NurseryPlaces$Admission" 9 (hY h_Ad_nextOnList)) := InT.of 495 rfl rfl
set_option maxRecDepth 100000 in
theorem m_Ad_15 : InT (.methodLink "NurseryPlaces$Admission" 15 (hY h_St_hasChild)) := InT.of 539 rfl rfl
set_option maxRecDepth 100000 in
theorem m_Ad_21 : InT (.methodLink "NurseryPlaces$Admission" 21 (hY h_Ad_place)) := InT.of 540 rfl rfl
set_option maxRecDepth 100000 in
theorem m_Md_213 : InT (.methodLink "NurseryPlacesModel" 213 (hY h_Md_isGood)) := InT.of 1199 rfl rfl
set_option maxRecDepth 100000 in
theorem m_Md_110 : InT (.methodLink "NurseryPlacesModel" 110 (hY h_Md_roomOf)) := InT.of 1016 rfl rfl
set_option maxRecDepth 100000 in
theorem m_Md_113 : InT (.methodLink "NurseryPlacesModel" 113 (hY h_Md_freeOf)) := InT.of 1020 rfl rfl
set_option maxRecDepth 100000 in
theorem m_Md_138 : InT (.methodLink "NurseryPlacesModel" 138 (hY h_Md_canSwap)) := InT.of 1070 rfl rfl
set_option maxRecDepth 100000 in
theorem m_Md_154 : InT (.methodLink "NurseryPlacesModel" 154 (hY h_Md_comeAll)) := InT.of 1094 rfl rfl
set_option maxRecDepth 100000 in
theorem m_N_79 : InT (.methodLink "NurseryPlaces" 79 (hY h_Se_exchange)) := InT.of 568 rfl rfl
set_option maxRecDepth 100000 in
theorem m_Pd_36 : InT (.methodLink "NurseryPlaces$Pad" 36 (hY h_Pd_rewind)) := InT.of 766 rfl rfl
set_option maxRecDepth 100000 in
theorem m_Pd_39 : InT (.methodLink "NurseryPlaces$Pad" 39 (hY h_Pd_readOrder)) := InT.of 770 rfl rfl
set_option maxRecDepth 100000 in
theorem m_Wk_9 : InT (.methodLinkNest "NurseryPlaces$Week" 9 (hY h_N_isWithin) "NurseryPlaces") := InT.of 605 rfl rfl
set_option maxRecDepth 100000 in
theorem m_Wk_13 : InT (.methodLink "NurseryPlaces$Week" 13 (hY h_Wk_holdSessions)) := InT.of 606 rfl rfl
set_option maxRecDepth 100000 in
theorem m_Wk_19 : InT (.methodLink "NurseryPlaces$Week" 19 (hY h_Wk_settle)) := InT.of 639 rfl rfl
set_option maxRecDepth 100000 in
theorem m_Wk_22 : InT (.methodLink "NurseryPlaces$Week" 22 (hY h_Wk_beginWeek)) := InT.of 642 rfl rfl
set_option maxRecDepth 100000 in
theorem m_Wk_25 : InT (.methodLink "NurseryPlaces$Week" 25 (hY h_Wk_moveGrown)) := InT.of 645 rfl rfl
set_option maxRecDepth 100000 in
theorem m_Wk_28 : InT (.methodLink "NurseryPlaces$Week" 28 (hY h_Wk_dropImpatient)) := InT.of 657 rfl rfl
set_option maxRecDepth 100000 in
theorem m_Md_116 : InT (.methodLink "NurseryPlacesModel" 116 (hY h_Md_gets)) := InT.of 1012 rfl rfl
set_option maxRecDepth 100000 in
theorem m_Md_119 : InT (.methodLink "NurseryPlacesModel" 119 (hY h_Md_hasSibling)) := InT.of 1047 rfl rfl
set_option maxRecDepth 100000 in
theorem m_Md_157 : InT (.methodLink "NurseryPlacesModel" 157 (hY h_Md_pays)) := InT.of 1106 rfl rfl
set_option maxRecDepth 100000 in
theorem m_Md_161 : InT (.methodLink "NurseryPlacesModel" 161 (hY h_Md_settles)) := InT.of 1114 rfl rfl
set_option maxRecDepth 100000 in
theorem m_Md_164 : InT (.methodLink "NurseryPlacesModel" 164 (hY h_Md_moves)) := InT.of 1118 rfl rfl
set_option maxRecDepth 100000 in
theorem m_N_67 : InT (.methodLink "NurseryPlaces" 67 (hY h_Ad_admitAll)) := InT.of 492 rfl rfl
set_option maxRecDepth 100000 in
theorem f_N_289 : LkF "NurseryPlaces" 289 6 3 := InT.of 337 rfl rfl
set_option maxRecDepth 100000 in
theorem f_N_293 : LkF "NurseryPlaces" 293 6 4 := InT.of 339 rfl rfl
set_option maxRecDepth 100000 in
theorem m_N_89 : InT (.methodLink "NurseryPlaces" 89 (hY h_Wk_passWeeks)) := InT.of 602 rfl rfl
set_option maxRecDepth 100000 in
theorem m_N_276 : InT (.methodLink "NurseryPlaces" 276 (hY h_Pd_findFault)) := InT.of 762 rfl rfl
set_option maxRecDepth 100000 in
theorem m_Md_122 : InT (.methodLink "NurseryPlacesModel" 122 (hY h_Md_firstOne)) := InT.of 1008 rfl rfl
set_option maxRecDepth 100000 in
theorem m_Md_176 : InT (.methodLink "NurseryPlacesModel" 176 (hY h_Md_keep)) := InT.of 1154 rfl rfl
set_option maxRecDepth 100000 in
theorem m_Md_167 : InT (.methodLink "NurseryPlacesModel" 167 (hY h_Md_oneWeek)) := InT.of 1090 rfl rfl
set_option maxRecDepth 100000 in
theorem m_Md_179 : InT (.methodLink "NurseryPlacesModel" 179 (hY h_Md_bringBack)) := InT.of 1158 rfl rfl
set_option maxRecDepth 100000 in
theorem m_N_279 : InT (.methodLink "NurseryPlaces" 279 (hY h_Pd_rewind)) := InT.of 859 rfl rfl
set_option maxRecDepth 100000 in
theorem m_N_282 : InT (.methodLink "NurseryPlaces" 282 (hY h_Pd_readNextOrder)) := InT.of 860 rfl rfl
set_option maxRecDepth 100000 in
theorem m_N_286 : InT (.methodLink "NurseryPlaces" 286 (hY h_N_carryOutOrder)) := InT.of 864 rfl rfl
set_option maxRecDepth 100000 in
theorem m_Md_126 : InT (.methodLink "NurseryPlacesModel" 126 (hY h_Md_admits)) := InT.of 1004 rfl rfl
set_option maxRecDepth 100000 in
theorem m_Md_216 : InT (.methodLink "NurseryPlacesModel" 216 (hY h_Md_child)) := InT.of 1231 rfl rfl
set_option maxRecDepth 100000 in
theorem m_Md_220 : InT (.methodLink "NurseryPlacesModel" 220 (hY h_Md_visit)) := InT.of 1232 rfl rfl
set_option maxRecDepth 100000 in
theorem m_Md_223 : InT (.methodLink "NurseryPlacesModel" 223 (hY h_Md_swap)) := InT.of 1233 rfl rfl
set_option maxRecDepth 100000 in
theorem m_Md_226 : InT (.methodLink "NurseryPlacesModel" 226 (hY h_Md_sick)) := InT.of 1234 rfl rfl
set_option maxRecDepth 100000 in
theorem m_Md_229 : InT (.methodLink "NurseryPlacesModel" 229 (hY h_Md_admit)) := InT.of 1235 rfl rfl
set_option maxRecDepth 100000 in
theorem m_Md_232 : InT (.methodLink "NurseryPlacesModel" 232 (hY h_Md_weeks)) := InT.of 1236 rfl rfl
set_option maxRecDepth 100000 in
theorem m_Md_235 : InT (.methodLink "NurseryPlacesModel" 235 (hY h_Md_doOrder)) := InT.of 1227 rfl rfl
set_option maxRecDepth 100000 in
theorem m_Lw_13 : InT (.methodLink "NurseryPlacesLaw" 13 (hY h_N_set)) := InT.of 375 rfl rfl
set_option maxRecDepth 100000 in
theorem m_Lw_17 : InT (.methodLink "NurseryPlacesLaw" 17 (hY h_Md_set)) := InT.of 939 rfl rfl
set_option maxRecDepth 100000 in
theorem m_Lw_18 : InT (.methodLink "NurseryPlacesLaw" 18 (hY h_N_room)) := InT.of 417 rfl rfl
set_option maxRecDepth 100000 in
theorem m_Lw_22 : InT (.methodLink "NurseryPlacesLaw" 22 (hY h_Md_room)) := InT.of 950 rfl rfl
set_option maxRecDepth 100000 in
theorem m_Lw_23 : InT (.methodLink "NurseryPlacesLaw" 23 (hY h_N_carer)) := InT.of 425 rfl rfl
set_option maxRecDepth 100000 in
theorem m_Lw_26 : InT (.methodLink "NurseryPlacesLaw" 26 (hY h_Md_carer)) := InT.of 954 rfl rfl
set_option maxRecDepth 100000 in
theorem m_Lw_27 : InT (.methodLink "NurseryPlacesLaw" 27 (hY h_N_child)) := InT.of 445 rfl rfl
set_option maxRecDepth 100000 in
theorem m_Lw_31 : InT (.methodLink "NurseryPlacesLaw" 31 (hY h_Md_child)) := InT.of 969 rfl rfl
set_option maxRecDepth 100000 in
theorem m_Lw_32 : InT (.methodLink "NurseryPlacesLaw" 32 (hY h_N_leave)) := InT.of 465 rfl rfl
set_option maxRecDepth 100000 in
theorem m_Lw_36 : InT (.methodLink "NurseryPlacesLaw" 36 (hY h_Md_leave)) := InT.of 977 rfl rfl
set_option maxRecDepth 100000 in
theorem m_Lw_37 : InT (.methodLink "NurseryPlacesLaw" 37 (hY h_N_admit)) := InT.of 488 rfl rfl
set_option maxRecDepth 100000 in
theorem m_Lw_41 : InT (.methodLink "NurseryPlacesLaw" 41 (hY h_Md_admit)) := InT.of 1000 rfl rfl
set_option maxRecDepth 100000 in
theorem m_Lw_42 : InT (.methodLink "NurseryPlacesLaw" 42 (hY h_N_visit)) := InT.of 543 rfl rfl
set_option maxRecDepth 100000 in
theorem m_Lw_45 : InT (.methodLink "NurseryPlacesLaw" 45 (hY h_Md_visit)) := InT.of 1051 rfl rfl
set_option maxRecDepth 100000 in
theorem m_Lw_46 : InT (.methodLink "NurseryPlacesLaw" 46 (hY h_N_swap)) := InT.of 564 rfl rfl
set_option maxRecDepth 100000 in
theorem m_Lw_49 : InT (.methodLink "NurseryPlacesLaw" 49 (hY h_Md_swap)) := InT.of 1066 rfl rfl
set_option maxRecDepth 100000 in
theorem m_Lw_50 : InT (.methodLink "NurseryPlacesLaw" 50 (hY h_N_giveBack)) := InT.of 578 rfl rfl
set_option maxRecDepth 100000 in
theorem m_Lw_53 : InT (.methodLink "NurseryPlacesLaw" 53 (hY h_Md_giveBack)) := InT.of 1074 rfl rfl
set_option maxRecDepth 100000 in
theorem m_Lw_54 : InT (.methodLink "NurseryPlacesLaw" 54 (hY h_N_sick)) := InT.of 586 rfl rfl
set_option maxRecDepth 100000 in
theorem m_Lw_57 : InT (.methodLink "NurseryPlacesLaw" 57 (hY h_Md_sick)) := InT.of 1078 rfl rfl
set_option maxRecDepth 100000 in
theorem m_Lw_58 : InT (.methodLink "NurseryPlacesLaw" 58 (hY h_N_weeks)) := InT.of 598 rfl rfl
set_option maxRecDepth 100000 in
theorem m_Lw_61 : InT (.methodLink "NurseryPlacesLaw" 61 (hY h_Md_weeks)) := InT.of 1086 rfl rfl
set_option maxRecDepth 100000 in
theorem m_Lw_62 : InT (.methodLink "NurseryPlacesLaw" 62 (hY h_N_ofRoom)) := InT.of 660 rfl rfl
set_option maxRecDepth 100000 in
theorem m_Lw_65 : InT (.methodLink "NurseryPlacesLaw" 65 (hY h_Md_ofRoom)) := InT.of 1122 rfl rfl
set_option maxRecDepth 100000 in
theorem m_Lw_66 : InT (.methodLink "NurseryPlacesLaw" 66 (hY h_N_ofCarer)) := InT.of 675 rfl rfl
set_option maxRecDepth 100000 in
theorem m_Lw_69 : InT (.methodLink "NurseryPlacesLaw" 69 (hY h_Md_ofCarer)) := InT.of 1126 rfl rfl
set_option maxRecDepth 100000 in
theorem m_Lw_70 : InT (.methodLink "NurseryPlacesLaw" 70 (hY h_N_ofChild)) := InT.of 680 rfl rfl
set_option maxRecDepth 100000 in
theorem m_Lw_73 : InT (.methodLink "NurseryPlacesLaw" 73 (hY h_Md_ofChild)) := InT.of 1130 rfl rfl
set_option maxRecDepth 100000 in
theorem m_Lw_74 : InT (.methodLink "NurseryPlacesLaw" 74 (hY h_N_count)) := InT.of 685 rfl rfl
set_option maxRecDepth 100000 in
theorem m_Lw_77 : InT (.methodLink "NurseryPlacesLaw" 77 (hY h_Md_count)) := InT.of 1134 rfl rfl
set_option maxRecDepth 100000 in
theorem m_Lw_78 : InT (.methodLink "NurseryPlacesLaw" 78 (hY h_N_free)) := InT.of 695 rfl rfl
set_option maxRecDepth 100000 in
theorem m_Lw_81 : InT (.methodLink "NurseryPlacesLaw" 81 (hY h_Md_free)) := InT.of 1142 rfl rfl
set_option maxRecDepth 100000 in
theorem m_Lw_82 : InT (.methodLink "NurseryPlacesLaw" 82 (hY h_N_wouldGet)) := InT.of 701 rfl rfl
set_option maxRecDepth 100000 in
theorem m_Lw_85 : InT (.methodLink "NurseryPlacesLaw" 85 (hY h_Md_wouldGet)) := InT.of 1146 rfl rfl
set_option maxRecDepth 100000 in
theorem m_Lw_86 : InT (.methodLink "NurseryPlacesLaw" 86 (hY h_N_wouldAdmit)) := InT.of 706 rfl rfl
set_option maxRecDepth 100000 in
theorem m_Lw_89 : InT (.methodLink "NurseryPlacesLaw" 89 (hY h_Md_wouldAdmit)) := InT.of 1150 rfl rfl
set_option maxRecDepth 100000 in
theorem m_Lw_90 : InT (.methodLink "NurseryPlacesLaw" 90 (hY h_N_partners)) := InT.of 711 rfl rfl
set_option maxRecDepth 100000 in
theorem m_Lw_93 : InT (.methodLink "NurseryPlacesLaw" 93 (hY h_Md_partners)) := InT.of 1162 rfl rfl
set_option maxRecDepth 100000 in
theorem m_Lw_94 : InT (.methodLink "NurseryPlacesLaw" 94 (hY h_N_sentHome)) := InT.of 716 rfl rfl
set_option maxRecDepth 100000 in
theorem m_Lw_97 : InT (.methodLink "NurseryPlacesLaw" 97 (hY h_Md_sentHome)) := InT.of 1166 rfl rfl
set_option maxRecDepth 100000 in
theorem m_Lw_98 : InT (.methodLink "NurseryPlacesLaw" 98 (hY h_N_moreBy)) := InT.of 723 rfl rfl
set_option maxRecDepth 100000 in
theorem m_Lw_101 : InT (.methodLink "NurseryPlacesLaw" 101 (hY h_Md_moreBy)) := InT.of 1170 rfl rfl
set_option maxRecDepth 100000 in
theorem m_Lw_102 : InT (.methodLink "NurseryPlacesLaw" 102 (hY h_N_income)) := InT.of 733 rfl rfl
set_option maxRecDepth 100000 in
theorem m_Lw_105 : InT (.methodLink "NurseryPlacesLaw" 105 (hY h_Md_income)) := InT.of 1182 rfl rfl
set_option maxRecDepth 100000 in
theorem m_Lw_108 : InT (.methodLink "NurseryPlacesLaw" 108 (hY h_N_put)) := InT.of 737 rfl rfl
set_option maxRecDepth 100000 in
theorem m_Lw_112 : InT (.methodLink "NurseryPlacesLaw" 112 (hY h_Md_put)) := InT.of 1186 rfl rfl
set_option maxRecDepth 100000 in
theorem m_Lw_113 : InT (.methodLink "NurseryPlacesLaw" 113 (hY h_N_wipe)) := InT.of 750 rfl rfl
set_option maxRecDepth 100000 in
theorem m_Lw_116 : InT (.methodLink "NurseryPlacesLaw" 116 (hY h_Md_wipe)) := InT.of 1191 rfl rfl
set_option maxRecDepth 100000 in
theorem m_Lw_117 : InT (.methodLink "NurseryPlacesLaw" 117 (hY h_N_fault)) := InT.of 758 rfl rfl
set_option maxRecDepth 100000 in
theorem m_Lw_120 : InT (.methodLink "NurseryPlacesLaw" 120 (hY h_Md_fault)) := InT.of 1195 rfl rfl
set_option maxRecDepth 100000 in
theorem m_Lw_121 : InT (.methodLink "NurseryPlacesLaw" 121 (hY h_N_carryOut)) := InT.of 855 rfl rfl
set_option maxRecDepth 100000 in
theorem m_Lw_124 : InT (.methodLink "NurseryPlacesLaw" 124 (hY h_Md_carryOut)) := InT.of 1223 rfl rfl
set_option maxRecDepth 100000 in
theorem m_Lw_125 : InT (.methodLink "NurseryPlacesLaw" 125 (hY h_N_undo)) := InT.of 868 rfl rfl
set_option maxRecDepth 100000 in
theorem m_Lw_128 : InT (.methodLink "NurseryPlacesLaw" 128 (hY h_Md_undo)) := InT.of 1237 rfl rfl
set_option maxRecDepth 100000 in
theorem m_Lw_129 : InT (.methodLink "NurseryPlacesLaw" 129 (hY h_N_save)) := InT.of 876 rfl rfl
set_option maxRecDepth 100000 in
theorem m_Lw_132 : InT (.methodLink "NurseryPlacesLaw" 132 (hY h_Md_save)) := InT.of 1241 rfl rfl
set_option maxRecDepth 100000 in
theorem m_Lw_133 : InT (.methodLink "NurseryPlacesLaw" 133 (hY h_N_restore)) := InT.of 883 rfl rfl
set_option maxRecDepth 100000 in
theorem m_Lw_136 : InT (.methodLink "NurseryPlacesLaw" 136 (hY h_Md_restore)) := InT.of 1245 rfl rfl
theorem ki_0 : (0 : Int32) = Int32.ofInt (0) := by decide
theorem ki_1 : (1 : Int32) = Int32.ofInt (1) := by decide
theorem kb_m6 : (-6 : Int32) = (Int8.ofInt (-6)).toInt32 := by decide
theorem kb_6 : (6 : Int32) = (Int8.ofInt (6)).toInt32 := by decide
theorem kb_7 : (7 : Int32) = (Int8.ofInt (7)).toInt32 := by decide
theorem ki_2 : (2 : Int32) = Int32.ofInt (2) := by decide
theorem ki_4 : (4 : Int32) = Int32.ofInt (4) := by decide
theorem kb_8 : (8 : Int32) = (Int8.ofInt (8)).toInt32 := by decide
theorem kb_16 : (16 : Int32) = (Int8.ofInt (16)).toInt32 := by decide
theorem kb_63 : (63 : Int32) = (Int8.ofInt (63)).toInt32 := by decide
theorem ks_429 : (429 : Int32) = (Int16.ofInt (429)).toInt32 := by decide
theorem kb_33 : (33 : Int32) = (Int8.ofInt (33)).toInt32 := by decide
theorem ki_5 : (5 : Int32) = Int32.ofInt (5) := by decide
theorem ki_3 : (3 : Int32) = Int32.ofInt (3) := by decide
theorem kb_93 : (93 : Int32) = (Int8.ofInt (93)).toInt32 := by decide
theorem kb_14 : (14 : Int32) = (Int8.ofInt (14)).toInt32 := by decide
theorem ks_2145 : (2145 : Int32) = (Int16.ofInt (2145)).toInt32 := by decide
theorem kb_m5 : (-5 : Int32) = (Int8.ofInt (-5)).toInt32 := by decide
theorem kb_12 : (12 : Int32) = (Int8.ofInt (12)).toInt32 := by decide
theorem kb_m4 : (-4 : Int32) = (Int8.ofInt (-4)).toInt32 := by decide
theorem kb_100 : (100 : Int32) = (Int8.ofInt (100)).toInt32 := by decide
theorem kb_72 : (72 : Int32) = (Int8.ofInt (72)).toInt32 := by decide
theorem kb_15 : (15 : Int32) = (Int8.ofInt (15)).toInt32 := by decide
theorem ks_1023 : (1023 : Int32) = (Int16.ofInt (1023)).toInt32 := by decide
theorem kb_m2 : (-2 : Int32) = (Int8.ofInt (-2)).toInt32 := by decide
theorem kb_24 : (24 : Int32) = (Int8.ofInt (24)).toInt32 := by decide
theorem kb_48 : (48 : Int32) = (Int8.ofInt (48)).toInt32 := by decide
theorem kb_57 : (57 : Int32) = (Int8.ofInt (57)).toInt32 := by decide
theorem kb_9 : (9 : Int32) = (Int8.ofInt (9)).toInt32 := by decide
theorem kb_31 : (31 : Int32) = (Int8.ofInt (31)).toInt32 := by decide
theorem kb_10 : (10 : Int32) = (Int8.ofInt (10)).toInt32 := by decide
theorem kb_126 : (126 : Int32) = (Int8.ofInt (126)).toInt32 := by decide
theorem kb_80 : (80 : Int32) = (Int8.ofInt (80)).toInt32 := by decide
theorem ki_m1 : (-1 : Int32) = Int32.ofInt (-1) := by decide
theorem kb_71 : (71 : Int32) = (Int8.ofInt (71)).toInt32 := by decide
theorem kb_40 : (40 : Int32) = (Int8.ofInt (40)).toInt32 := by decide
theorem kb_13 : (13 : Int32) = (Int8.ofInt (13)).toInt32 := by decide
theorem kb_18 : (18 : Int32) = (Int8.ofInt (18)).toInt32 := by decide
theorem kb_64 : (64 : Int32) = (Int8.ofInt (64)).toInt32 := by decide
theorem kb_11 : (11 : Int32) = (Int8.ofInt (11)).toInt32 := by decide
theorem kb_19 : (19 : Int32) = (Int8.ofInt (19)).toInt32 := by decide
theorem kb_20 : (20 : Int32) = (Int8.ofInt (20)).toInt32 := by decide
theorem kb_29 : (29 : Int32) = (Int8.ofInt (29)).toInt32 := by decide
theorem kb_30 : (30 : Int32) = (Int8.ofInt (30)).toInt32 := by decide
theorem kb_39 : (39 : Int32) = (Int8.ofInt (39)).toInt32 := by decide
theorem ks_255 : (255 : Int32) = (Int16.ofInt (255)).toInt32 := by decide
theorem ks_1024 : (1024 : Int32) = (Int16.ofInt (1024)).toInt32 := by decide
theorem kb_47 : (47 : Int32) = (Int8.ofInt (47)).toInt32 := by decide
theorem kb_58 : (58 : Int32) = (Int8.ofInt (58)).toInt32 := by decide
theorem kb_61 : (61 : Int32) = (Int8.ofInt (61)).toInt32 := by decide
theorem kb_78 : (78 : Int32) = (Int8.ofInt (78)).toInt32 := by decide
theorem kb_68 : (68 : Int32) = (Int8.ofInt (68)).toInt32 := by decide
theorem kb_59 : (59 : Int32) = (Int8.ofInt (59)).toInt32 := by decide
theorem kb_52 : (52 : Int32) = (Int8.ofInt (52)).toInt32 := by decide
theorem kb_m3 : (-3 : Int32) = (Int8.ofInt (-3)).toInt32 := by decide
theorem kb_32 : (32 : Int32) = (Int8.ofInt (32)).toInt32 := by decide
