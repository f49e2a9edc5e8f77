/-! HEADS of the methods, what the tables say of them; links (laid by a program) -/
/-- the name of promise 7's method, letter by letter -/
abbrev nm_ad : String := String.ofList ['a', 'd', 'm', 'i', 't']
def h_Ad_hasPlacedSibling : Hd := (⟨"NurseryPlaces$Admission", "hasPlacedSibling", "(LNurseryPlaces$State;I)Z"⟩, prog_2_method_4_code, 4, (some .boolean), 0, 0, 2)
set_option maxRecDepth 100000 in
theorem hk_Ad_hasPlacedSibling : HdOk h_Ad_hasPlacedSibling 2 := ⟨InT.of 395 rfl rfl, InT.of 12 rfl rfl, by decide, by decide, by decide +kernel⟩
set_option maxRecDepth 100000 in
theorem hs_Ad_hasPlacedSibling : InT (.static (hY h_Ad_hasPlacedSibling)) := InT.of 394 rfl rfl
def h_Ca_copyFrom : Hd := (⟨"NurseryPlaces$Carer", "copyFrom", "(LNurseryPlaces$Carer;)V"⟩, prog_3_method_2_code, 2, none, 0, 0, 2)
set_option maxRecDepth 100000 in
theorem hk_Ca_copyFrom : HdOk h_Ca_copyFrom 1 := ⟨InT.of 335 rfl rfl, InT.of 4 rfl rfl, by decide, by decide, by decide +kernel⟩
set_option maxRecDepth 100000 in
theorem hi_Ca_copyFrom : InT (.instanceMethod (hY h_Ca_copyFrom)) := InT.of 333 rfl rfl
set_option maxRecDepth 100000 in
theorem hv_Ca_copyFrom : InT (.selects (hY h_Ca_copyFrom).cls (hY h_Ca_copyFrom) (hY h_Ca_copyFrom)) := InT.of 334 rfl rfl
def h_Ca_isOnDuty : Hd := (⟨"NurseryPlaces$Carer", "isOnDuty", "(II)Z"⟩, prog_3_method_3_code, 3, (some .boolean), 0, 0, 3)
set_option maxRecDepth 100000 in
theorem hk_Ca_isOnDuty : HdOk h_Ca_isOnDuty 2 := ⟨InT.of 429 rfl rfl, InT.of 4 rfl rfl, by decide, by decide, by decide +kernel⟩
set_option maxRecDepth 100000 in
theorem hi_Ca_isOnDuty : InT (.instanceMethod (hY h_Ca_isOnDuty)) := InT.of 427 rfl rfl
set_option maxRecDepth 100000 in
theorem hv_Ca_isOnDuty : InT (.selects (hY h_Ca_isOnDuty).cls (hY h_Ca_isOnDuty) (hY h_Ca_isOnDuty)) := InT.of 428 rfl rfl
def h_Ch_copyFrom : Hd := (⟨"NurseryPlaces$Child", "copyFrom", "(LNurseryPlaces$Child;)V"⟩, prog_4_method_2_code, 2, none, 0, 0, 2)
set_option maxRecDepth 100000 in
theorem hk_Ch_copyFrom : HdOk h_Ch_copyFrom 1 := ⟨InT.of 339 rfl rfl, InT.of 5 rfl rfl, by decide, by decide, by decide +kernel⟩
set_option maxRecDepth 100000 in
theorem hi_Ch_copyFrom : InT (.instanceMethod (hY h_Ch_copyFrom)) := InT.of 337 rfl rfl
set_option maxRecDepth 100000 in
theorem hv_Ch_copyFrom : InT (.selects (hY h_Ch_copyFrom).cls (hY h_Ch_copyFrom) (hY h_Ch_copyFrom)) := InT.of 338 rfl rfl
def h_Ch_has : Hd := (⟨"NurseryPlaces$Child", "has", "(I)Z"⟩, prog_4_method_6_code, 2, (some .boolean), 0, 0, 2)
set_option maxRecDepth 100000 in
theorem hk_Ch_has : HdOk h_Ch_has 1 := ⟨InT.of 421 rfl rfl, InT.of 5 rfl rfl, by decide, by decide, by decide +kernel⟩
set_option maxRecDepth 100000 in
theorem hi_Ch_has : InT (.instanceMethod (hY h_Ch_has)) := InT.of 419 rfl rfl
set_option maxRecDepth 100000 in
theorem hv_Ch_has : InT (.selects (hY h_Ch_has).cls (hY h_Ch_has) (hY h_Ch_has)) := InT.of 420 rfl rfl
def h_Ch_quitRoom : Hd := (⟨"NurseryPlaces$Child", "quitRoom", "(I)V"⟩, prog_4_method_5_code, 2, none, 0, 0, 2)
set_option maxRecDepth 100000 in
theorem hk_Ch_quitRoom : HdOk h_Ch_quitRoom 1 := ⟨InT.of 505 rfl rfl, InT.of 5 rfl rfl, by decide, by decide, by decide +kernel⟩
set_option maxRecDepth 100000 in
theorem hi_Ch_quitRoom : InT (.instanceMethod (hY h_Ch_quitRoom)) := InT.of 503 rfl rfl
set_option maxRecDepth 100000 in
theorem hv_Ch_quitRoom : InT (.selects (hY h_Ch_quitRoom).cls (hY h_Ch_quitRoom) (hY h_Ch_quitRoom)) := InT.of 504 rfl rfl
def h_Hi_keepIfDone : Hd := (⟨"NurseryPlaces$History", "keepIfDone", "(I)I"⟩, prog_5_method_3_code, 2, (some .int), 0, 0, 2)
set_option maxRecDepth 100000 in
theorem hk_Hi_keepIfDone : HdOk h_Hi_keepIfDone 1 := ⟨InT.of 354 rfl rfl, InT.of 6 rfl rfl, by decide, by decide, by decide +kernel⟩
set_option maxRecDepth 100000 in
theorem hi_Hi_keepIfDone : InT (.instanceMethod (hY h_Hi_keepIfDone)) := InT.of 352 rfl rfl
set_option maxRecDepth 100000 in
theorem hv_Hi_keepIfDone : InT (.selects (hY h_Hi_keepIfDone).cls (hY h_Hi_keepIfDone) (hY h_Hi_keepIfDone)) := InT.of 353 rfl rfl
def h_Int_bitCount : Hd := (⟨"java/lang/Integer", "bitCount", "(I)I"⟩, prog_13_method_49_code, 1, (some .int), 0, 0, 1)
set_option maxRecDepth 100000 in
theorem hk_Int_bitCount : HdOk h_Int_bitCount 1 := ⟨InT.of 435 rfl rfl, InT.of 10 rfl rfl, by decide, by decide, by decide +kernel⟩
set_option maxRecDepth 100000 in
theorem hs_Int_bitCount : InT (.static (hY h_Int_bitCount)) := InT.of 434 rfl rfl
def h_Lw_cell : Hd := (⟨"NurseryPlacesLaw", "cell", "([II)I"⟩, method_2_code, 2, (some .int), 0, 0, 2)
set_option maxRecDepth 100000 in
theorem hk_Lw_cell : HdOk h_Lw_cell 2 := ⟨InT.of 578 rfl rfl, InT.of 0 rfl rfl, by decide, by decide, by decide +kernel⟩
set_option maxRecDepth 100000 in
theorem hs_Lw_cell : InT (.static (hY h_Lw_cell)) := InT.of 577 rfl rfl
def h_Lw_ones : Hd := (⟨"NurseryPlacesLaw", "ones", "(I)I"⟩, method_3_code, 3, (some .int), 0, 0, 1)
set_option maxRecDepth 100000 in
theorem hk_Lw_ones : HdOk h_Lw_ones 1 := ⟨InT.of 615 rfl rfl, InT.of 0 rfl rfl, by decide, by decide, by decide +kernel⟩
set_option maxRecDepth 100000 in
theorem hs_Lw_ones : InT (.static (hY h_Lw_ones)) := InT.of 614 rfl rfl
def h_Mth_max : Hd := (⟨"java/lang/Math", "max", "(II)I"⟩, prog_14_method_65_code, 2, (some .int), 0, 0, 2)
set_option maxRecDepth 100000 in
theorem hk_Mth_max : HdOk h_Mth_max 2 := ⟨InT.of 475 rfl rfl, InT.of 11 rfl rfl, by decide, by decide, by decide +kernel⟩
set_option maxRecDepth 100000 in
theorem hs_Mth_max : InT (.static (hY h_Mth_max)) := InT.of 474 rfl rfl
def h_Mth_min : Hd := (⟨"java/lang/Math", "min", "(II)I"⟩, prog_14_method_69_code, 2, (some .int), 0, 0, 2)
set_option maxRecDepth 100000 in
theorem hk_Mth_min : HdOk h_Mth_min 2 := ⟨InT.of 432 rfl rfl, InT.of 11 rfl rfl, by decide, by decide, by decide +kernel⟩
set_option maxRecDepth 100000 in
theorem hs_Mth_min : InT (.static (hY h_Mth_min)) := InT.of 431 rfl rfl
def h_N_holds : Hd := (⟨"NurseryPlaces", "holds", "(II)Z"⟩, prog_1_method_36_code, 2, (some .boolean), 0, 0, 2)
set_option maxRecDepth 100000 in
theorem hk_N_holds : HdOk h_N_holds 2 := ⟨InT.of 413 rfl rfl, InT.of 1 rfl rfl, by decide, by decide, by decide +kernel⟩
set_option maxRecDepth 100000 in
theorem hs_N_holds : InT (.static (hY h_N_holds)) := InT.of 412 rfl rfl
def h_N_isWithin : Hd := (⟨"NurseryPlaces", "isWithin", "(III)Z"⟩, prog_1_method_32_code, 3, (some .boolean), 0, 0, 3)
set_option maxRecDepth 100000 in
theorem hk_N_isWithin : HdOk h_N_isWithin 3 := ⟨InT.of 346 rfl rfl, InT.of 1 rfl rfl, by decide, by decide, by decide +kernel⟩
set_option maxRecDepth 100000 in
theorem hs_N_isWithin : InT (.static (hY h_N_isWithin)) := InT.of 345 rfl rfl
def h_Rm_copyFrom : Hd := (⟨"NurseryPlaces$Room", "copyFrom", "(LNurseryPlaces$Room;)V"⟩, prog_7_method_2_code, 2, none, 0, 0, 2)
set_option maxRecDepth 100000 in
theorem hk_Rm_copyFrom : HdOk h_Rm_copyFrom 1 := ⟨InT.of 331 rfl rfl, InT.of 3 rfl rfl, by decide, by decide, by decide +kernel⟩
set_option maxRecDepth 100000 in
theorem hi_Rm_copyFrom : InT (.instanceMethod (hY h_Rm_copyFrom)) := InT.of 329 rfl rfl
set_option maxRecDepth 100000 in
theorem hv_Rm_copyFrom : InT (.selects (hY h_Rm_copyFrom).cls (hY h_Rm_copyFrom) (hY h_Rm_copyFrom)) := InT.of 330 rfl rfl
def h_Rm_isFor : Hd := (⟨"NurseryPlaces$Room", "isFor", "(I)Z"⟩, prog_7_method_3_code, 2, (some .boolean), 0, 0, 2)
set_option maxRecDepth 100000 in
theorem hk_Rm_isFor : HdOk h_Rm_isFor 1 := ⟨InT.of 406 rfl rfl, InT.of 3 rfl rfl, by decide, by decide, by decide +kernel⟩
set_option maxRecDepth 100000 in
theorem hi_Rm_isFor : InT (.instanceMethod (hY h_Rm_isFor)) := InT.of 404 rfl rfl
set_option maxRecDepth 100000 in
theorem hv_Rm_isFor : InT (.selects (hY h_Rm_isFor).cls (hY h_Rm_isFor) (hY h_Rm_isFor)) := InT.of 405 rfl rfl
def h_St_carersOf : Hd := (⟨"NurseryPlaces$State", "carersOf", "(I)I"⟩, prog_9_method_19_code, 4, (some .int), 0, 0, 2)
set_option maxRecDepth 100000 in
theorem hk_St_carersOf : HdOk h_St_carersOf 1 := ⟨InT.of 525 rfl rfl, InT.of 2 rfl rfl, by decide, by decide, by decide +kernel⟩
set_option maxRecDepth 100000 in
theorem hi_St_carersOf : InT (.instanceMethod (hY h_St_carersOf)) := InT.of 523 rfl rfl
set_option maxRecDepth 100000 in
theorem hv_St_carersOf : InT (.selects (hY h_St_carersOf).cls (hY h_St_carersOf) (hY h_St_carersOf)) := InT.of 524 rfl rfl
def h_St_childrenInState : Hd := (⟨"NurseryPlaces$State", "childrenInState", "(I)I"⟩, prog_9_method_21_code, 4, (some .int), 0, 0, 2)
set_option maxRecDepth 100000 in
theorem hk_St_childrenInState : HdOk h_St_childrenInState 1 := ⟨InT.of 537 rfl rfl, InT.of 2 rfl rfl, by decide, by decide, by decide +kernel⟩
set_option maxRecDepth 100000 in
theorem hi_St_childrenInState : InT (.instanceMethod (hY h_St_childrenInState)) := InT.of 535 rfl rfl
set_option maxRecDepth 100000 in
theorem hv_St_childrenInState : InT (.selects (hY h_St_childrenInState).cls (hY h_St_childrenInState) (hY h_St_childrenInState)) := InT.of 536 rfl rfl
def h_St_childrenOf : Hd := (⟨"NurseryPlaces$State", "childrenOf", "(I)I"⟩, prog_9_method_20_code, 4, (some .int), 0, 0, 2)
set_option maxRecDepth 100000 in
theorem hk_St_childrenOf : HdOk h_St_childrenOf 1 := ⟨InT.of 529 rfl rfl, InT.of 2 rfl rfl, by decide, by decide, by decide +kernel⟩
set_option maxRecDepth 100000 in
theorem hi_St_childrenOf : InT (.instanceMethod (hY h_St_childrenOf)) := InT.of 527 rfl rfl
set_option maxRecDepth 100000 in
theorem hv_St_childrenOf : InT (.selects (hY h_St_childrenOf).cls (hY h_St_childrenOf) (hY h_St_childrenOf)) := InT.of 528 rfl rfl
def h_St_hasCarer : Hd := (⟨"NurseryPlaces$State", "hasCarer", "(I)Z"⟩, prog_9_method_4_code, 2, (some .boolean), 0, 0, 2)
set_option maxRecDepth 100000 in
theorem hk_St_hasCarer : HdOk h_St_hasCarer 1 := ⟨InT.of 591 rfl rfl, InT.of 2 rfl rfl, by decide, by decide, by decide +kernel⟩
set_option maxRecDepth 100000 in
theorem hi_St_hasCarer : InT (.instanceMethod (hY h_St_hasCarer)) := InT.of 589 rfl rfl
set_option maxRecDepth 100000 in
theorem hv_St_hasCarer : InT (.selects (hY h_St_hasCarer).cls (hY h_St_hasCarer) (hY h_St_hasCarer)) := InT.of 590 rfl rfl
def h_St_hasChild : Hd := (⟨"NurseryPlaces$State", "hasChild", "(I)Z"⟩, prog_9_method_5_code, 2, (some .boolean), 0, 0, 2)
set_option maxRecDepth 100000 in
theorem hk_St_hasChild : HdOk h_St_hasChild 1 := ⟨InT.of 442 rfl rfl, InT.of 2 rfl rfl, by decide, by decide, by decide +kernel⟩
set_option maxRecDepth 100000 in
theorem hi_St_hasChild : InT (.instanceMethod (hY h_St_hasChild)) := InT.of 440 rfl rfl
set_option maxRecDepth 100000 in
theorem hv_St_hasChild : InT (.selects (hY h_St_hasChild).cls (hY h_St_hasChild) (hY h_St_hasChild)) := InT.of 441 rfl rfl
def h_St_hasRoom : Hd := (⟨"NurseryPlaces$State", "hasRoom", "(I)Z"⟩, prog_9_method_3_code, 2, (some .boolean), 0, 0, 2)
set_option maxRecDepth 100000 in
theorem hk_St_hasRoom : HdOk h_St_hasRoom 1 := ⟨InT.of 374 rfl rfl, InT.of 2 rfl rfl, by decide, by decide, by decide +kernel⟩
set_option maxRecDepth 100000 in
theorem hi_St_hasRoom : InT (.instanceMethod (hY h_St_hasRoom)) := InT.of 372 rfl rfl
set_option maxRecDepth 100000 in
theorem hv_St_hasRoom : InT (.selects (hY h_St_hasRoom).cls (hY h_St_hasRoom) (hY h_St_hasRoom)) := InT.of 373 rfl rfl
def h_St_hire : Hd := (⟨"NurseryPlaces$State", "hire", "(IIII)I"⟩, prog_9_method_9_code, 6, (some .int), 0, 0, 5)
set_option maxRecDepth 100000 in
theorem hk_St_hire : HdOk h_St_hire 4 := ⟨InT.of 382 rfl rfl, InT.of 2 rfl rfl, by decide, by decide, by decide +kernel⟩
set_option maxRecDepth 100000 in
theorem hi_St_hire : InT (.instanceMethod (hY h_St_hire)) := InT.of 380 rfl rfl
set_option maxRecDepth 100000 in
theorem hv_St_hire : InT (.selects (hY h_St_hire).cls (hY h_St_hire) (hY h_St_hire)) := InT.of 381 rfl rfl
def h_St_plannedVisits : Hd := (⟨"NurseryPlaces$State", "plannedVisits", "()I"⟩, prog_9_method_23_code, 3, (some .int), 0, 0, 1)
set_option maxRecDepth 100000 in
theorem hk_St_plannedVisits : HdOk h_St_plannedVisits 0 := ⟨InT.of 545 rfl rfl, InT.of 2 rfl rfl, by decide, by decide, by decide +kernel⟩
set_option maxRecDepth 100000 in
theorem hi_St_plannedVisits : InT (.instanceMethod (hY h_St_plannedVisits)) := InT.of 543 rfl rfl
set_option maxRecDepth 100000 in
theorem hv_St_plannedVisits : InT (.selects (hY h_St_plannedVisits).cls (hY h_St_plannedVisits) (hY h_St_plannedVisits)) := InT.of 544 rfl rfl
def h_St_settledChildren : Hd := (⟨"NurseryPlaces$State", "settledChildren", "()I"⟩, prog_9_method_22_code, 3, (some .int), 0, 0, 1)
set_option maxRecDepth 100000 in
theorem hk_St_settledChildren : HdOk h_St_settledChildren 0 := ⟨InT.of 541 rfl rfl, InT.of 2 rfl rfl, by decide, by decide, by decide +kernel⟩
set_option maxRecDepth 100000 in
theorem hi_St_settledChildren : InT (.instanceMethod (hY h_St_settledChildren)) := InT.of 539 rfl rfl
set_option maxRecDepth 100000 in
theorem hv_St_settledChildren : InT (.selects (hY h_St_settledChildren).cls (hY h_St_settledChildren) (hY h_St_settledChildren)) := InT.of 540 rfl rfl
def h_Wk_beginWeek : Hd := (⟨"NurseryPlaces$Week", "beginWeek", "(LNurseryPlaces$State;)V"⟩, prog_10_method_12_code, 3, none, 0, 0, 1)
set_option maxRecDepth 100000 in
theorem hk_Wk_beginWeek : HdOk h_Wk_beginWeek 1 := ⟨InT.of 492 rfl rfl, InT.of 9 rfl rfl, by decide, by decide, by decide +kernel⟩
set_option maxRecDepth 100000 in
theorem hs_Wk_beginWeek : InT (.static (hY h_Wk_beginWeek)) := InT.of 491 rfl rfl
def h_Wk_feeFor : Hd := (⟨"NurseryPlaces$Week", "feeFor", "(LNurseryPlaces$State;I)I"⟩, prog_10_method_10_code, 6, (some .int), 0, 0, 2)
set_option maxRecDepth 100000 in
theorem hk_Wk_feeFor : HdOk h_Wk_feeFor 2 := ⟨InT.of 486 rfl rfl, InT.of 9 rfl rfl, by decide, by decide, by decide +kernel⟩
set_option maxRecDepth 100000 in
theorem hs_Wk_feeFor : InT (.static (hY h_Wk_feeFor)) := InT.of 485 rfl rfl
def h_Wk_settle : Hd := (⟨"NurseryPlaces$Week", "settle", "(LNurseryPlaces$State;)V"⟩, prog_10_method_11_code, 3, none, 0, 0, 1)
set_option maxRecDepth 100000 in
theorem hk_Wk_settle : HdOk h_Wk_settle 1 := ⟨InT.of 489 rfl rfl, InT.of 9 rfl rfl, by decide, by decide, by decide +kernel⟩
set_option maxRecDepth 100000 in
theorem hs_Wk_settle : InT (.static (hY h_Wk_settle)) := InT.of 488 rfl rfl
def h_Ch_comesTo : Hd := (⟨"NurseryPlaces$Child", "comesTo", "(I)Z"⟩, prog_4_method_7_code, 2, (some .boolean), 1, 21, 2)
set_option maxRecDepth 100000 in
theorem hk_Ch_comesTo : HdOk h_Ch_comesTo 1 := ⟨InT.of 466 rfl rfl, InT.of 5 rfl rfl, by decide, by decide, by decide +kernel⟩
set_option maxRecDepth 100000 in
theorem hi_Ch_comesTo : InT (.instanceMethod (hY h_Ch_comesTo)) := InT.of 464 rfl rfl
set_option maxRecDepth 100000 in
theorem hv_Ch_comesTo : InT (.selects (hY h_Ch_comesTo).cls (hY h_Ch_comesTo) (hY h_Ch_comesTo)) := InT.of 465 rfl rfl
def h_Ch_waitAgain : Hd := (⟨"NurseryPlaces$Child", "waitAgain", "(I)V"⟩, prog_4_method_4_code, 2, none, 1, 21, 2)
set_option maxRecDepth 100000 in
theorem hk_Ch_waitAgain : HdOk h_Ch_waitAgain 1 := ⟨InT.of 510 rfl rfl, InT.of 5 rfl rfl, by decide, by decide, by decide +kernel⟩
set_option maxRecDepth 100000 in
theorem hi_Ch_waitAgain : InT (.instanceMethod (hY h_Ch_waitAgain)) := InT.of 508 rfl rfl
set_option maxRecDepth 100000 in
theorem hv_Ch_waitAgain : InT (.selects (hY h_Ch_waitAgain).cls (hY h_Ch_waitAgain) (hY h_Ch_waitAgain)) := InT.of 509 rfl rfl
def h_N_count : Hd := (⟨"NurseryPlaces", "count", "(I)I"⟩, prog_1_method_16_code, 2, (some .int), 1, 23, 2)
set_option maxRecDepth 100000 in
theorem hk_N_count : HdOk h_N_count 1 := ⟨InT.of 533 rfl rfl, InT.of 1 rfl rfl, by decide, by decide, by decide +kernel⟩
set_option maxRecDepth 100000 in
theorem hi_N_count : InT (.instanceMethod (hY h_N_count)) := InT.of 531 rfl rfl
set_option maxRecDepth 100000 in
theorem hv_N_count : InT (.selects (hY h_N_count).cls (hY h_N_count) (hY h_N_count)) := InT.of 532 rfl rfl
def h_N_isSession : Hd := (⟨"NurseryPlaces", "isSession", "(I)Z"⟩, prog_1_method_33_code, 1, (some .boolean), 1, 22, 1)
set_option maxRecDepth 100000 in
theorem hk_N_isSession : HdOk h_N_isSession 1 := ⟨InT.of 603 rfl rfl, InT.of 1 rfl rfl, by decide, by decide, by decide +kernel⟩
set_option maxRecDepth 100000 in
theorem hs_N_isSession : InT (.static (hY h_N_isSession)) := InT.of 602 rfl rfl
def h_N_isShift : Hd := (⟨"NurseryPlaces", "isShift", "(III)Z"⟩, prog_1_method_35_code, 3, (some .boolean), 1, 22, 3)
set_option maxRecDepth 100000 in
theorem hk_N_isShift : HdOk h_N_isShift 3 := ⟨InT.of 377 rfl rfl, InT.of 1 rfl rfl, by decide, by decide, by decide +kernel⟩
set_option maxRecDepth 100000 in
theorem hs_N_isShift : InT (.static (hY h_N_isShift)) := InT.of 376 rfl rfl
def h_N_isSlot : Hd := (⟨"NurseryPlaces", "isSlot", "(I)Z"⟩, prog_1_method_34_code, 1, (some .boolean), 1, 22, 1)
set_option maxRecDepth 100000 in
theorem hk_N_isSlot : HdOk h_N_isSlot 1 := ⟨InT.of 571 rfl rfl, InT.of 1 rfl rfl, by decide, by decide, by decide +kernel⟩
set_option maxRecDepth 100000 in
theorem hs_N_isSlot : InT (.static (hY h_N_isSlot)) := InT.of 570 rfl rfl
def h_N_ofCarer : Hd := (⟨"NurseryPlaces", "ofCarer", "(II)I"⟩, prog_1_method_14_code, 4, (some .int), 1, 21, 3)
set_option maxRecDepth 100000 in
theorem hk_N_ofCarer : HdOk h_N_ofCarer 2 := ⟨InT.of 587 rfl rfl, InT.of 1 rfl rfl, by decide, by decide, by decide +kernel⟩
set_option maxRecDepth 100000 in
theorem hi_N_ofCarer : InT (.instanceMethod (hY h_N_ofCarer)) := InT.of 585 rfl rfl
set_option maxRecDepth 100000 in
theorem hv_N_ofCarer : InT (.selects (hY h_N_ofCarer).cls (hY h_N_ofCarer) (hY h_N_ofCarer)) := InT.of 586 rfl rfl
def h_N_ofChild : Hd := (⟨"NurseryPlaces", "ofChild", "(II)I"⟩, prog_1_method_15_code, 4, (some .int), 1, 21, 3)
set_option maxRecDepth 100000 in
theorem hk_N_ofChild : HdOk h_N_ofChild 2 := ⟨InT.of 595 rfl rfl, InT.of 1 rfl rfl, by decide, by decide, by decide +kernel⟩
set_option maxRecDepth 100000 in
theorem hi_N_ofChild : InT (.instanceMethod (hY h_N_ofChild)) := InT.of 593 rfl rfl
set_option maxRecDepth 100000 in
theorem hv_N_ofChild : InT (.selects (hY h_N_ofChild).cls (hY h_N_ofChild) (hY h_N_ofChild)) := InT.of 594 rfl rfl
def h_St_addRoom : Hd := (⟨"NurseryPlaces$State", "addRoom", "(IIII)I"⟩, prog_9_method_7_code, 6, (some .int), 1, 22, 5)
set_option maxRecDepth 100000 in
theorem hk_St_addRoom : HdOk h_St_addRoom 4 := ⟨InT.of 362 rfl rfl, InT.of 2 rfl rfl, by decide, by decide, by decide +kernel⟩
set_option maxRecDepth 100000 in
theorem hi_St_addRoom : InT (.instanceMethod (hY h_St_addRoom)) := InT.of 360 rfl rfl
set_option maxRecDepth 100000 in
theorem hv_St_addRoom : InT (.selects (hY h_St_addRoom).cls (hY h_St_addRoom) (hY h_St_addRoom)) := InT.of 361 rfl rfl
def h_St_changeSetting : Hd := (⟨"NurseryPlaces$State", "changeSetting", "(II)I"⟩, prog_9_method_6_code, 4, (some .int), 1, 22, 3)
set_option maxRecDepth 100000 in
theorem hk_St_changeSetting : HdOk h_St_changeSetting 2 := ⟨InT.of 343 rfl rfl, InT.of 2 rfl rfl, by decide, by decide, by decide +kernel⟩
set_option maxRecDepth 100000 in
theorem hi_St_changeSetting : InT (.instanceMethod (hY h_St_changeSetting)) := InT.of 341 rfl rfl
set_option maxRecDepth 100000 in
theorem hv_St_changeSetting : InT (.selects (hY h_St_changeSetting).cls (hY h_St_changeSetting) (hY h_St_changeSetting)) := InT.of 342 rfl rfl
def h_St_copyFrom : Hd := (⟨"NurseryPlaces$State", "copyFrom", "(LNurseryPlaces$State;)V"⟩, prog_9_method_2_code, 3, none, 1, 59, 2)
set_option maxRecDepth 100000 in
theorem hk_St_copyFrom : HdOk h_St_copyFrom 1 := ⟨InT.of 324 rfl rfl, InT.of 2 rfl rfl, by decide, by decide, by decide +kernel⟩
set_option maxRecDepth 100000 in
theorem hi_St_copyFrom : InT (.instanceMethod (hY h_St_copyFrom)) := InT.of 322 rfl rfl
set_option maxRecDepth 100000 in
theorem hv_St_copyFrom : InT (.selects (hY h_St_copyFrom).cls (hY h_St_copyFrom) (hY h_St_copyFrom)) := InT.of 323 rfl rfl
def h_St_placesIn : Hd := (⟨"NurseryPlaces$State", "placesIn", "(IIZ)I"⟩, prog_9_method_13_code, 12, (some .int), 1, 22, 4)
set_option maxRecDepth 100000 in
theorem hk_St_placesIn : HdOk h_St_placesIn 3 := ⟨InT.of 425 rfl rfl, InT.of 2 rfl rfl, by decide, by decide, by decide +kernel⟩
set_option maxRecDepth 100000 in
theorem hi_St_placesIn : InT (.instanceMethod (hY h_St_placesIn)) := InT.of 423 rfl rfl
set_option maxRecDepth 100000 in
theorem hv_St_placesIn : InT (.selects (hY h_St_placesIn).cls (hY h_St_placesIn) (hY h_St_placesIn)) := InT.of 424 rfl rfl
def h_St_reportSick : Hd := (⟨"NurseryPlaces$State", "reportSick", "(I)I"⟩, prog_9_method_12_code, 4, (some .int), 1, 21, 2)
set_option maxRecDepth 100000 in
theorem hk_St_reportSick : HdOk h_St_reportSick 1 := ⟨InT.of 686 rfl rfl, InT.of 2 rfl rfl, by decide, by decide, by decide +kernel⟩
set_option maxRecDepth 100000 in
theorem hi_St_reportSick : InT (.instanceMethod (hY h_St_reportSick)) := InT.of 684 rfl rfl
set_option maxRecDepth 100000 in
theorem hv_St_reportSick : InT (.selects (hY h_St_reportSick).cls (hY h_St_reportSick) (hY h_St_reportSick)) := InT.of 685 rfl rfl
def h_St_roomOfAge : Hd := (⟨"NurseryPlaces$State", "roomOfAge", "(I)I"⟩, prog_9_method_18_code, 3, (some .int), 1, 21, 2)
set_option maxRecDepth 100000 in
theorem hk_St_roomOfAge : HdOk h_St_roomOfAge 1 := ⟨InT.of 402 rfl rfl, InT.of 2 rfl rfl, by decide, by decide, by decide +kernel⟩
set_option maxRecDepth 100000 in
theorem hi_St_roomOfAge : InT (.instanceMethod (hY h_St_roomOfAge)) := InT.of 400 rfl rfl
set_option maxRecDepth 100000 in
theorem hv_St_roomOfAge : InT (.selects (hY h_St_roomOfAge).cls (hY h_St_roomOfAge) (hY h_St_roomOfAge)) := InT.of 401 rfl rfl
def h_St_takenIn : Hd := (⟨"NurseryPlaces$State", "takenIn", "(II)I"⟩, prog_9_method_15_code, 5, (some .int), 1, 21, 3)
set_option maxRecDepth 100000 in
theorem hk_St_takenIn : HdOk h_St_takenIn 2 := ⟨InT.of 417 rfl rfl, InT.of 2 rfl rfl, by decide, by decide, by decide +kernel⟩
set_option maxRecDepth 100000 in
theorem hi_St_takenIn : InT (.instanceMethod (hY h_St_takenIn)) := InT.of 415 rfl rfl
set_option maxRecDepth 100000 in
theorem hv_St_takenIn : InT (.selects (hY h_St_takenIn).cls (hY h_St_takenIn) (hY h_St_takenIn)) := InT.of 416 rfl rfl
def h_Wk_bookCame : Hd := (⟨"NurseryPlaces$Week", "bookCame", "(LNurseryPlaces$State;I)V"⟩, prog_10_method_9_code, 4, none, 1, 25, 2)
set_option maxRecDepth 100000 in
theorem hk_Wk_bookCame : HdOk h_Wk_bookCame 2 := ⟨InT.of 483 rfl rfl, InT.of 9 rfl rfl, by decide, by decide, by decide +kernel⟩
set_option maxRecDepth 100000 in
theorem hs_Wk_bookCame : InT (.static (hY h_Wk_bookCame)) := InT.of 482 rfl rfl
def h_Wk_dropImpatient : Hd := (⟨"NurseryPlaces$Week", "dropImpatient", "(LNurseryPlaces$State;)V"⟩, prog_10_method_15_code, 4, none, 1, 21, 1)
set_option maxRecDepth 100000 in
theorem hk_Wk_dropImpatient : HdOk h_Wk_dropImpatient 1 := ⟨InT.of 514 rfl rfl, InT.of 9 rfl rfl, by decide, by decide, by decide +kernel⟩
set_option maxRecDepth 100000 in
theorem hs_Wk_dropImpatient : InT (.static (hY h_Wk_dropImpatient)) := InT.of 513 rfl rfl
def h_Wk_nextSentHome : Hd := (⟨"NurseryPlaces$Week", "nextSentHome", "(LNurseryPlaces$State;I)I"⟩, prog_10_method_8_code, 7, (some .int), 1, 21, 2)
set_option maxRecDepth 100000 in
theorem hk_Wk_nextSentHome : HdOk h_Wk_nextSentHome 2 := ⟨InT.of 478 rfl rfl, InT.of 9 rfl rfl, by decide, by decide, by decide +kernel⟩
set_option maxRecDepth 100000 in
theorem hs_Wk_nextSentHome : InT (.static (hY h_Wk_nextSentHome)) := InT.of 477 rfl rfl
def h_Ch_come : Hd := (⟨"NurseryPlaces$Child", "come", "(IIII)V"⟩, prog_4_method_3_code, 5, none, 2, 42, 5)
set_option maxRecDepth 100000 in
theorem hk_Ch_come : HdOk h_Ch_come 4 := ⟨InT.of 630 rfl rfl, InT.of 5 rfl rfl, by decide, by decide, by decide +kernel⟩
set_option maxRecDepth 100000 in
theorem hi_Ch_come : InT (.instanceMethod (hY h_Ch_come)) := InT.of 628 rfl rfl
set_option maxRecDepth 100000 in
theorem hv_Ch_come : InT (.selects (hY h_Ch_come).cls (hY h_Ch_come) (hY h_Ch_come)) := InT.of 629 rfl rfl
def h_Hi_note : Hd := (⟨"NurseryPlaces$History", "note", "(LNurseryPlaces$State;)V"⟩, prog_5_method_2_code, 2, none, 2, 81, 2)
set_option maxRecDepth 100000 in
theorem hk_Hi_note : HdOk h_Hi_note 1 := ⟨InT.of 320 rfl rfl, InT.of 6 rfl rfl, by decide, by decide, by decide +kernel⟩
set_option maxRecDepth 100000 in
theorem hi_Hi_note : InT (.instanceMethod (hY h_Hi_note)) := InT.of 318 rfl rfl
set_option maxRecDepth 100000 in
theorem hv_Hi_note : InT (.selects (hY h_Hi_note).cls (hY h_Hi_note) (hY h_Hi_note)) := InT.of 319 rfl rfl
def h_Hi_takeBack : Hd := (⟨"NurseryPlaces$History", "takeBack", "(LNurseryPlaces$State;)I"⟩, prog_5_method_4_code, 2, (some .int), 2, 81, 2)
set_option maxRecDepth 100000 in
theorem hk_Hi_takeBack : HdOk h_Hi_takeBack 1 := ⟨InT.of 564 rfl rfl, InT.of 6 rfl rfl, by decide, by decide, by decide +kernel⟩
set_option maxRecDepth 100000 in
theorem hi_Hi_takeBack : InT (.instanceMethod (hY h_Hi_takeBack)) := InT.of 562 rfl rfl
set_option maxRecDepth 100000 in
theorem hv_Hi_takeBack : InT (.selects (hY h_Hi_takeBack).cls (hY h_Hi_takeBack) (hY h_Hi_takeBack)) := InT.of 563 rfl rfl
def h_N_free : Hd := (⟨"NurseryPlaces", "free", "(II)I"⟩, prog_1_method_17_code, 3, (some .int), 2, 53, 3)
set_option maxRecDepth 100000 in
theorem hk_N_free : HdOk h_N_free 2 := ⟨InT.of 600 rfl rfl, InT.of 1 rfl rfl, by decide, by decide, by decide +kernel⟩
set_option maxRecDepth 100000 in
theorem hi_N_free : InT (.instanceMethod (hY h_N_free)) := InT.of 598 rfl rfl
set_option maxRecDepth 100000 in
theorem hv_N_free : InT (.selects (hY h_N_free).cls (hY h_N_free) (hY h_N_free)) := InT.of 599 rfl rfl
def h_N_ofRoom : Hd := (⟨"NurseryPlaces", "ofRoom", "(II)I"⟩, prog_1_method_13_code, 4, (some .int), 2, 53, 3)
set_option maxRecDepth 100000 in
theorem hk_N_ofRoom : HdOk h_N_ofRoom 2 := ⟨InT.of 518 rfl rfl, InT.of 1 rfl rfl, by decide, by decide, by decide +kernel⟩
set_option maxRecDepth 100000 in
theorem hi_N_ofRoom : InT (.instanceMethod (hY h_N_ofRoom)) := InT.of 516 rfl rfl
set_option maxRecDepth 100000 in
theorem hv_N_ofRoom : InT (.selects (hY h_N_ofRoom).cls (hY h_N_ofRoom) (hY h_N_ofRoom)) := InT.of 517 rfl rfl
def h_N_save : Hd := (⟨"NurseryPlaces", "save", "(I)I"⟩, prog_1_method_30_code, 2, (some .int), 2, 81, 2)
set_option maxRecDepth 100000 in
theorem hk_N_save : HdOk h_N_save 1 := ⟨InT.of 568 rfl rfl, InT.of 1 rfl rfl, by decide, by decide, by decide +kernel⟩
set_option maxRecDepth 100000 in
theorem hi_N_save : InT (.instanceMethod (hY h_N_save)) := InT.of 566 rfl rfl
set_option maxRecDepth 100000 in
theorem hv_N_save : InT (.selects (hY h_N_save).cls (hY h_N_save) (hY h_N_save)) := InT.of 567 rfl rfl
def h_Se_handBack : Hd := (⟨"NurseryPlaces$Sessions", "handBack", "(LNurseryPlaces$State;II)I"⟩, prog_8_method_6_code, 5, (some .int), 2, 42, 3)
set_option maxRecDepth 100000 in
theorem hk_Se_handBack : HdOk h_Se_handBack 3 := ⟨InT.of 658 rfl rfl, InT.of 13 rfl rfl, by decide, by decide, by decide +kernel⟩
set_option maxRecDepth 100000 in
theorem hs_Se_handBack : InT (.static (hY h_Se_handBack)) := InT.of 657 rfl rfl
def h_Se_hasPlaceForVisit : Hd := (⟨"NurseryPlaces$Sessions", "hasPlaceForVisit", "(LNurseryPlaces$State;II)Z"⟩, prog_8_method_3_code, 6, (some .boolean), 2, 53, 3)
set_option maxRecDepth 100000 in
theorem hk_Se_hasPlaceForVisit : HdOk h_Se_hasPlaceForVisit 3 := ⟨InT.of 648 rfl rfl, InT.of 13 rfl rfl, by decide, by decide, by decide +kernel⟩
set_option maxRecDepth 100000 in
theorem hs_Se_hasPlaceForVisit : InT (.static (hY h_Se_hasPlaceForVisit)) := InT.of 647 rfl rfl
def h_St_addCarer : Hd := (⟨"NurseryPlaces$State", "addCarer", "(IIII)I"⟩, prog_9_method_8_code, 5, (some .int), 2, 44, 5)
set_option maxRecDepth 100000 in
theorem hk_St_addCarer : HdOk h_St_addCarer 4 := ⟨InT.of 370 rfl rfl, InT.of 2 rfl rfl, by decide, by decide, by decide +kernel⟩
set_option maxRecDepth 100000 in
theorem hi_St_addCarer : InT (.instanceMethod (hY h_St_addCarer)) := InT.of 368 rfl rfl
set_option maxRecDepth 100000 in
theorem hv_St_addCarer : InT (.selects (hY h_St_addCarer).cls (hY h_St_addCarer) (hY h_St_addCarer)) := InT.of 369 rfl rfl
def h_St_isOpen : Hd := (⟨"NurseryPlaces$State", "isOpen", "(II)Z"⟩, prog_9_method_16_code, 3, (some .boolean), 2, 53, 3)
set_option maxRecDepth 100000 in
theorem hk_St_isOpen : HdOk h_St_isOpen 2 := ⟨InT.of 670 rfl rfl, InT.of 2 rfl rfl, by decide, by decide, by decide +kernel⟩
set_option maxRecDepth 100000 in
theorem hi_St_isOpen : InT (.instanceMethod (hY h_St_isOpen)) := InT.of 668 rfl rfl
set_option maxRecDepth 100000 in
theorem hv_St_isOpen : InT (.selects (hY h_St_isOpen).cls (hY h_St_isOpen) (hY h_St_isOpen)) := InT.of 669 rfl rfl
def h_St_openOnes : Hd := (⟨"NurseryPlaces$State", "openOnes", "(II)I"⟩, prog_9_method_17_code, 6, (some .int), 2, 53, 3)
set_option maxRecDepth 100000 in
theorem hk_St_openOnes : HdOk h_St_openOnes 2 := ⟨InT.of 410 rfl rfl, InT.of 2 rfl rfl, by decide, by decide, by decide +kernel⟩
set_option maxRecDepth 100000 in
theorem hi_St_openOnes : InT (.instanceMethod (hY h_St_openOnes)) := InT.of 408 rfl rfl
set_option maxRecDepth 100000 in
theorem hv_St_openOnes : InT (.selects (hY h_St_openOnes).cls (hY h_St_openOnes) (hY h_St_openOnes)) := InT.of 409 rfl rfl
def h_St_placesInAll : Hd := (⟨"NurseryPlaces$State", "placesInAll", "(I)I"⟩, prog_9_method_14_code, 4, (some .int), 2, 53, 2)
set_option maxRecDepth 100000 in
theorem hk_St_placesInAll : HdOk h_St_placesInAll 1 := ⟨InT.of 556 rfl rfl, InT.of 2 rfl rfl, by decide, by decide, by decide +kernel⟩
set_option maxRecDepth 100000 in
theorem hi_St_placesInAll : InT (.instanceMethod (hY h_St_placesInAll)) := InT.of 554 rfl rfl
set_option maxRecDepth 100000 in
theorem hv_St_placesInAll : InT (.selects (hY h_St_placesInAll).cls (hY h_St_placesInAll) (hY h_St_placesInAll)) := InT.of 555 rfl rfl
def h_Wk_comersTo : Hd := (⟨"NurseryPlaces$Week", "comersTo", "(LNurseryPlaces$State;II)I"⟩, prog_10_method_5_code, 6, (some .int), 2, 42, 3)
set_option maxRecDepth 100000 in
theorem hk_Wk_comersTo : HdOk h_Wk_comersTo 3 := ⟨InT.of 462 rfl rfl, InT.of 9 rfl rfl, by decide, by decide, by decide +kernel⟩
set_option maxRecDepth 100000 in
theorem hs_Wk_comersTo : InT (.static (hY h_Wk_comersTo)) := InT.of 461 rfl rfl
def h_Wk_tooMany : Hd := (⟨"NurseryPlaces$Week", "tooMany", "(LNurseryPlaces$State;III)I"⟩, prog_10_method_6_code, 4, (some .int), 2, 53, 4)
set_option maxRecDepth 100000 in
theorem hk_Wk_tooMany : HdOk h_Wk_tooMany 4 := ⟨InT.of 470 rfl rfl, InT.of 9 rfl rfl, by decide, by decide, by decide +kernel⟩
set_option maxRecDepth 100000 in
theorem hs_Wk_tooMany : InT (.static (hY h_Wk_tooMany)) := InT.of 469 rfl rfl
def h_Ad_sessionsFor : Hd := (⟨"NurseryPlaces$Admission", "sessionsFor", "(LNurseryPlaces$State;I)I"⟩, prog_2_method_6_code, 4, (some .int), 3, 78, 2)
set_option maxRecDepth 100000 in
theorem hk_Ad_sessionsFor : HdOk h_Ad_sessionsFor 2 := ⟨InT.of 398 rfl rfl, InT.of 12 rfl rfl, by decide, by decide, by decide +kernel⟩
set_option maxRecDepth 100000 in
theorem hs_Ad_sessionsFor : InT (.static (hY h_Ad_sessionsFor)) := InT.of 397 rfl rfl
def h_Lw_rooms : Hd := (⟨"NurseryPlacesLaw", "rooms", "(LNurseryPlaces;)Z"⟩, method_4_code, 12, (some .boolean), 3, 76, 1)
set_option maxRecDepth 100000 in
theorem hk_Lw_rooms : HdOk h_Lw_rooms 1 := ⟨InT.of 583 rfl rfl, InT.of 0 rfl rfl, by decide, by decide, by decide +kernel⟩
set_option maxRecDepth 100000 in
theorem hs_Lw_rooms : InT (.static (hY h_Lw_rooms)) := InT.of 582 rfl rfl
def h_N_carer : Hd := (⟨"NurseryPlaces", "carer", "(IIII)I"⟩, prog_1_method_4_code, 5, (some .int), 3, 102, 5)
set_option maxRecDepth 100000 in
theorem hk_N_carer : HdOk h_N_carer 4 := ⟨InT.of 366 rfl rfl, InT.of 1 rfl rfl, by decide, by decide, by decide +kernel⟩
set_option maxRecDepth 100000 in
theorem hi_N_carer : InT (.instanceMethod (hY h_N_carer)) := InT.of 364 rfl rfl
set_option maxRecDepth 100000 in
theorem hv_N_carer : InT (.selects (hY h_N_carer).cls (hY h_N_carer) (hY h_N_carer)) := InT.of 365 rfl rfl
def h_N_giveBack : Hd := (⟨"NurseryPlaces", "giveBack", "(II)I"⟩, prog_1_method_10_code, 3, (some .int), 3, 102, 3)
set_option maxRecDepth 100000 in
theorem hk_N_giveBack : HdOk h_N_giveBack 2 := ⟨InT.of 655 rfl rfl, InT.of 1 rfl rfl, by decide, by decide, by decide +kernel⟩
set_option maxRecDepth 100000 in
theorem hi_N_giveBack : InT (.instanceMethod (hY h_N_giveBack)) := InT.of 653 rfl rfl
set_option maxRecDepth 100000 in
theorem hv_N_giveBack : InT (.selects (hY h_N_giveBack).cls (hY h_N_giveBack) (hY h_N_giveBack)) := InT.of 654 rfl rfl
def h_N_moreBy : Hd := (⟨"NurseryPlaces", "moreBy", "(IIII)I"⟩, prog_1_method_22_code, 5, (some .int), 3, 81, 5)
set_option maxRecDepth 100000 in
theorem hk_N_moreBy : HdOk h_N_moreBy 4 := ⟨InT.of 549 rfl rfl, InT.of 1 rfl rfl, by decide, by decide, by decide +kernel⟩
set_option maxRecDepth 100000 in
theorem hi_N_moreBy : InT (.instanceMethod (hY h_N_moreBy)) := InT.of 547 rfl rfl
set_option maxRecDepth 100000 in
theorem hv_N_moreBy : InT (.selects (hY h_N_moreBy).cls (hY h_N_moreBy) (hY h_N_moreBy)) := InT.of 548 rfl rfl
def h_N_restore : Hd := (⟨"NurseryPlaces", "restore", "(I)I"⟩, prog_1_method_31_code, 2, (some .int), 3, 102, 2)
set_option maxRecDepth 100000 in
theorem hk_N_restore : HdOk h_N_restore 1 := ⟨InT.of 575 rfl rfl, InT.of 1 rfl rfl, by decide, by decide, by decide +kernel⟩
set_option maxRecDepth 100000 in
theorem hi_N_restore : InT (.instanceMethod (hY h_N_restore)) := InT.of 573 rfl rfl
set_option maxRecDepth 100000 in
theorem hv_N_restore : InT (.selects (hY h_N_restore).cls (hY h_N_restore) (hY h_N_restore)) := InT.of 574 rfl rfl
def h_N_room : Hd := (⟨"NurseryPlaces", "room", "(IIII)I"⟩, prog_1_method_3_code, 5, (some .int), 3, 102, 5)
set_option maxRecDepth 100000 in
theorem hk_N_room : HdOk h_N_room 4 := ⟨InT.of 358 rfl rfl, InT.of 1 rfl rfl, by decide, by decide, by decide +kernel⟩
set_option maxRecDepth 100000 in
theorem hi_N_room : InT (.instanceMethod (hY h_N_room)) := InT.of 356 rfl rfl
set_option maxRecDepth 100000 in
theorem hv_N_room : InT (.selects (hY h_N_room).cls (hY h_N_room) (hY h_N_room)) := InT.of 357 rfl rfl
def h_N_set : Hd := (⟨"NurseryPlaces", "set", "(II)I"⟩, prog_1_method_2_code, 3, (some .int), 3, 102, 3)
set_option maxRecDepth 100000 in
theorem hk_N_set : HdOk h_N_set 2 := ⟨InT.of 316 rfl rfl, InT.of 1 rfl rfl, by decide, by decide, by decide +kernel⟩
set_option maxRecDepth 100000 in
theorem hi_N_set : InT (.instanceMethod (hY h_N_set)) := InT.of 314 rfl rfl
set_option maxRecDepth 100000 in
theorem hv_N_set : InT (.selects (hY h_N_set).cls (hY h_N_set) (hY h_N_set)) := InT.of 315 rfl rfl
def h_N_sick : Hd := (⟨"NurseryPlaces", "sick", "(I)I"⟩, prog_1_method_11_code, 2, (some .int), 3, 102, 2)
set_option maxRecDepth 100000 in
theorem hk_N_sick : HdOk h_N_sick 1 := ⟨InT.of 694 rfl rfl, InT.of 1 rfl rfl, by decide, by decide, by decide +kernel⟩
set_option maxRecDepth 100000 in
theorem hi_N_sick : InT (.instanceMethod (hY h_N_sick)) := InT.of 692 rfl rfl
set_option maxRecDepth 100000 in
theorem hv_N_sick : InT (.selects (hY h_N_sick).cls (hY h_N_sick) (hY h_N_sick)) := InT.of 693 rfl rfl
def h_N_undo : Hd := (⟨"NurseryPlaces", "undo", "()I"⟩, prog_1_method_29_code, 1, (some .int), 3, 102, 1)
set_option maxRecDepth 100000 in
theorem hk_N_undo : HdOk h_N_undo 0 := ⟨InT.of 560 rfl rfl, InT.of 1 rfl rfl, by decide, by decide, by decide +kernel⟩
set_option maxRecDepth 100000 in
theorem hi_N_undo : InT (.instanceMethod (hY h_N_undo)) := InT.of 558 rfl rfl
set_option maxRecDepth 100000 in
theorem hv_N_undo : InT (.selects (hY h_N_undo).cls (hY h_N_undo) (hY h_N_undo)) := InT.of 559 rfl rfl
def h_Se_canExchange : Hd := (⟨"NurseryPlaces$Sessions", "canExchange", "(LNurseryPlaces$State;IIII)Z"⟩, prog_8_method_5_code, 7, (some .boolean), 3, 75, 5)
set_option maxRecDepth 100000 in
theorem hk_Se_canExchange : HdOk h_Se_canExchange 5 := ⟨InT.of 666 rfl rfl, InT.of 13 rfl rfl, by decide, by decide, by decide +kernel⟩
set_option maxRecDepth 100000 in
theorem hs_Se_canExchange : InT (.static (hY h_Se_canExchange)) := InT.of 665 rfl rfl
def h_Se_planVisit : Hd := (⟨"NurseryPlaces$Sessions", "planVisit", "(LNurseryPlaces$State;II)I"⟩, prog_8_method_2_code, 4, (some .int), 3, 78, 3)
set_option maxRecDepth 100000 in
theorem hk_Se_planVisit : HdOk h_Se_planVisit 3 := ⟨InT.of 642 rfl rfl, InT.of 13 rfl rfl, by decide, by decide, by decide +kernel⟩
set_option maxRecDepth 100000 in
theorem hs_Se_planVisit : InT (.static (hY h_Se_planVisit)) := InT.of 641 rfl rfl
def h_St_addChild : Hd := (⟨"NurseryPlaces$State", "addChild", "(III)I"⟩, prog_9_method_10_code, 4, (some .int), 3, 66, 4)
set_option maxRecDepth 100000 in
theorem hk_St_addChild : HdOk h_St_addChild 3 := ⟨InT.of 626 rfl rfl, InT.of 2 rfl rfl, by decide, by decide, by decide +kernel⟩
set_option maxRecDepth 100000 in
theorem hi_St_addChild : InT (.instanceMethod (hY h_St_addChild)) := InT.of 624 rfl rfl
set_option maxRecDepth 100000 in
theorem hv_St_addChild : InT (.selects (hY h_St_addChild).cls (hY h_St_addChild) (hY h_St_addChild)) := InT.of 625 rfl rfl
def h_Wk_countTooMany : Hd := (⟨"NurseryPlaces$Week", "countTooMany", "(LNurseryPlaces$State;)I"⟩, prog_10_method_7_code, 4, (some .int), 3, 76, 1)
set_option maxRecDepth 100000 in
theorem hk_Wk_countTooMany : HdOk h_Wk_countTooMany 1 := ⟨InT.of 690 rfl rfl, InT.of 9 rfl rfl, by decide, by decide, by decide +kernel⟩
set_option maxRecDepth 100000 in
theorem hs_Wk_countTooMany : InT (.static (hY h_Wk_countTooMany)) := InT.of 689 rfl rfl
def h_Wk_holdSession : Hd := (⟨"NurseryPlaces$Week", "holdSession", "(LNurseryPlaces$State;II)V"⟩, prog_10_method_4_code, 6, none, 3, 76, 3)
set_option maxRecDepth 100000 in
theorem hk_Wk_holdSession : HdOk h_Wk_holdSession 3 := ⟨InT.of 459 rfl rfl, InT.of 9 rfl rfl, by decide, by decide, by decide +kernel⟩
set_option maxRecDepth 100000 in
theorem hs_Wk_holdSession : InT (.static (hY h_Wk_holdSession)) := InT.of 458 rfl rfl
def h_Wk_move : Hd := (⟨"NurseryPlaces$Week", "move", "(LNurseryPlaces$State;LNurseryPlaces$Child;)V"⟩, prog_10_method_14_code, 4, none, 3, 78, 2)
set_option maxRecDepth 100000 in
theorem hk_Wk_move : HdOk h_Wk_move 2 := ⟨InT.of 500 rfl rfl, InT.of 9 rfl rfl, by decide, by decide, by decide +kernel⟩
set_option maxRecDepth 100000 in
theorem hs_Wk_move : InT (.static (hY h_Wk_move)) := InT.of 499 rfl rfl
def h_Ad_nextOnList : Hd := (⟨"NurseryPlaces$Admission", "nextOnList", "(LNurseryPlaces$State;)I"⟩, prog_2_method_3_code, 5, (some .int), 4, 101, 1)
set_option maxRecDepth 100000 in
theorem hk_Ad_nextOnList : HdOk h_Ad_nextOnList 1 := ⟨InT.of 392 rfl rfl, InT.of 12 rfl rfl, by decide, by decide, by decide +kernel⟩
set_option maxRecDepth 100000 in
theorem hs_Ad_nextOnList : InT (.static (hY h_Ad_nextOnList)) := InT.of 391 rfl rfl
def h_Ad_place : Hd := (⟨"NurseryPlaces$Admission", "place", "(LNurseryPlaces$State;I)V"⟩, prog_2_method_5_code, 3, none, 4, 101, 2)
set_option maxRecDepth 100000 in
theorem hk_Ad_place : HdOk h_Ad_place 2 := ⟨InT.of 445 rfl rfl, InT.of 12 rfl rfl, by decide, by decide, by decide +kernel⟩
set_option maxRecDepth 100000 in
theorem hs_Ad_place : InT (.static (hY h_Ad_place)) := InT.of 444 rfl rfl
def h_N_child : Hd := (⟨"NurseryPlaces", "child", "(III)I"⟩, prog_1_method_5_code, 4, (some .int), 4, 102, 4)
set_option maxRecDepth 100000 in
theorem hk_N_child : HdOk h_N_child 3 := ⟨InT.of 622 rfl rfl, InT.of 1 rfl rfl, by decide, by decide, by decide +kernel⟩
set_option maxRecDepth 100000 in
theorem hi_N_child : InT (.instanceMethod (hY h_N_child)) := InT.of 620 rfl rfl
set_option maxRecDepth 100000 in
theorem hv_N_child : InT (.selects (hY h_N_child).cls (hY h_N_child) (hY h_N_child)) := InT.of 621 rfl rfl
def h_N_partners : Hd := (⟨"NurseryPlaces", "partners", "(III)I"⟩, prog_1_method_20_code, 6, (some .int), 4, 101, 4)
set_option maxRecDepth 100000 in
theorem hk_N_partners : HdOk h_N_partners 3 := ⟨InT.of 663 rfl rfl, InT.of 1 rfl rfl, by decide, by decide, by decide +kernel⟩
set_option maxRecDepth 100000 in
theorem hi_N_partners : InT (.instanceMethod (hY h_N_partners)) := InT.of 661 rfl rfl
set_option maxRecDepth 100000 in
theorem hv_N_partners : InT (.selects (hY h_N_partners).cls (hY h_N_partners) (hY h_N_partners)) := InT.of 662 rfl rfl
def h_N_sentHome : Hd := (⟨"NurseryPlaces", "sentHome", "(I)I"⟩, prog_1_method_21_code, 2, (some .int), 4, 99, 2)
set_option maxRecDepth 100000 in
theorem hk_N_sentHome : HdOk h_N_sentHome 1 := ⟨InT.of 682 rfl rfl, InT.of 1 rfl rfl, by decide, by decide, by decide +kernel⟩
set_option maxRecDepth 100000 in
theorem hi_N_sentHome : InT (.instanceMethod (hY h_N_sentHome)) := InT.of 680 rfl rfl
set_option maxRecDepth 100000 in
theorem hv_N_sentHome : InT (.selects (hY h_N_sentHome).cls (hY h_N_sentHome) (hY h_N_sentHome)) := InT.of 681 rfl rfl
def h_N_visit : Hd := (⟨"NurseryPlaces", "visit", "(II)I"⟩, prog_1_method_8_code, 3, (some .int), 4, 102, 3)
set_option maxRecDepth 100000 in
theorem hk_N_visit : HdOk h_N_visit 2 := ⟨InT.of 639 rfl rfl, InT.of 1 rfl rfl, by decide, by decide, by decide +kernel⟩
set_option maxRecDepth 100000 in
theorem hi_N_visit : InT (.instanceMethod (hY h_N_visit)) := InT.of 637 rfl rfl
set_option maxRecDepth 100000 in
theorem hv_N_visit : InT (.selects (hY h_N_visit).cls (hY h_N_visit) (hY h_N_visit)) := InT.of 638 rfl rfl
def h_N_wouldGet : Hd := (⟨"NurseryPlaces", "wouldGet", "(I)I"⟩, prog_1_method_18_code, 2, (some .int), 4, 101, 2)
set_option maxRecDepth 100000 in
theorem hk_N_wouldGet : HdOk h_N_wouldGet 1 := ⟨InT.of 611 rfl rfl, InT.of 1 rfl rfl, by decide, by decide, by decide +kernel⟩
set_option maxRecDepth 100000 in
theorem hi_N_wouldGet : InT (.instanceMethod (hY h_N_wouldGet)) := InT.of 609 rfl rfl
set_option maxRecDepth 100000 in
theorem hv_N_wouldGet : InT (.selects (hY h_N_wouldGet).cls (hY h_N_wouldGet) (hY h_N_wouldGet)) := InT.of 610 rfl rfl
def h_Se_exchange : Hd := (⟨"NurseryPlaces$Sessions", "exchange", "(LNurseryPlaces$State;IIII)I"⟩, prog_8_method_4_code, 6, (some .int), 4, 101, 5)
set_option maxRecDepth 100000 in
theorem hk_Se_exchange : HdOk h_Se_exchange 5 := ⟨InT.of 677 rfl rfl, InT.of 13 rfl rfl, by decide, by decide, by decide +kernel⟩
set_option maxRecDepth 100000 in
theorem hs_Se_exchange : InT (.static (hY h_Se_exchange)) := InT.of 676 rfl rfl
def h_Wk_holdSessions : Hd := (⟨"NurseryPlaces$Week", "holdSessions", "(LNurseryPlaces$State;)V"⟩, prog_10_method_3_code, 3, none, 4, 101, 1)
set_option maxRecDepth 100000 in
theorem hk_Wk_holdSessions : HdOk h_Wk_holdSessions 1 := ⟨InT.of 456 rfl rfl, InT.of 9 rfl rfl, by decide, by decide, by decide +kernel⟩
set_option maxRecDepth 100000 in
theorem hs_Wk_holdSessions : InT (.static (hY h_Wk_holdSessions)) := InT.of 455 rfl rfl
def h_Wk_moveGrown : Hd := (⟨"NurseryPlaces$Week", "moveGrown", "(LNurseryPlaces$State;)V"⟩, prog_10_method_13_code, 3, none, 4, 101, 1)
set_option maxRecDepth 100000 in
theorem hk_Wk_moveGrown : HdOk h_Wk_moveGrown 1 := ⟨InT.of 495 rfl rfl, InT.of 9 rfl rfl, by decide, by decide, by decide +kernel⟩
set_option maxRecDepth 100000 in
theorem hs_Wk_moveGrown : InT (.static (hY h_Wk_moveGrown)) := InT.of 494 rfl rfl
def h_Ad_admitAll : Hd := (⟨"NurseryPlaces$Admission", "admitAll", "(LNurseryPlaces$State;)I"⟩, prog_2_method_2_code, 4, (some .int), 5, 125, 1)
set_option maxRecDepth 100000 in
theorem hk_Ad_admitAll : HdOk h_Ad_admitAll 1 := ⟨InT.of 389 rfl rfl, InT.of 12 rfl rfl, by decide, by decide, by decide +kernel⟩
set_option maxRecDepth 100000 in
theorem hs_Ad_admitAll : InT (.static (hY h_Ad_admitAll)) := InT.of 388 rfl rfl
def h_Lw_children : Hd := (⟨"NurseryPlacesLaw", "children", "(LNurseryPlaces;)Z"⟩, method_5_code, 10, (some .boolean), 5, 122, 1)
set_option maxRecDepth 100000 in
theorem hk_Lw_children : HdOk h_Lw_children 1 := ⟨InT.of 607 rfl rfl, InT.of 0 rfl rfl, by decide, by decide, by decide +kernel⟩
set_option maxRecDepth 100000 in
theorem hs_Lw_children : InT (.static (hY h_Lw_children)) := InT.of 606 rfl rfl
def h_N_swap : Hd := (⟨"NurseryPlaces", "swap", "(IIII)I"⟩, prog_1_method_9_code, 5, (some .int), 5, 126, 5)
set_option maxRecDepth 100000 in
theorem hk_N_swap : HdOk h_N_swap 4 := ⟨InT.of 674 rfl rfl, InT.of 1 rfl rfl, by decide, by decide, by decide +kernel⟩
set_option maxRecDepth 100000 in
theorem hi_N_swap : InT (.instanceMethod (hY h_N_swap)) := InT.of 672 rfl rfl
set_option maxRecDepth 100000 in
theorem hv_N_swap : InT (.selects (hY h_N_swap).cls (hY h_N_swap) (hY h_N_swap)) := InT.of 673 rfl rfl
def h_Wk_passWeeks : Hd := (⟨"NurseryPlaces$Week", "passWeeks", "(LNurseryPlaces$State;I)I"⟩, prog_10_method_2_code, 3, (some .int), 5, 123, 2)
set_option maxRecDepth 100000 in
theorem hk_Wk_passWeeks : HdOk h_Wk_passWeeks 2 := ⟨InT.of 452 rfl rfl, InT.of 9 rfl rfl, by decide, by decide, by decide +kernel⟩
set_option maxRecDepth 100000 in
theorem hs_Wk_passWeeks : InT (.static (hY h_Wk_passWeeks)) := InT.of 451 rfl rfl
def h_N_admit : Hd := (⟨"NurseryPlaces", nm_ad, "()I"⟩, prog_1_method_7_code, 1, (some .int), 6, 148, 1)
set_option maxRecDepth 100000 in
theorem hk_N_admit : HdOk h_N_admit 0 := ⟨InT.of 386 rfl rfl, InT.of 1 rfl rfl, by decide, by decide, by decide +kernel⟩
set_option maxRecDepth 100000 in
theorem hi_N_admit : InT (.instanceMethod (hY h_N_admit)) := InT.of 384 rfl rfl
set_option maxRecDepth 100000 in
theorem hv_N_admit : InT (.selects (hY h_N_admit).cls (hY h_N_admit) (hY h_N_admit)) := InT.of 385 rfl rfl
def h_N_income : Hd := (⟨"NurseryPlaces", "income", "(I)I"⟩, prog_1_method_23_code, 3, (some .int), 6, 145, 2)
set_option maxRecDepth 100000 in
theorem hk_N_income : HdOk h_N_income 1 := ⟨InT.of 698 rfl rfl, InT.of 1 rfl rfl, by decide, by decide, by decide +kernel⟩
set_option maxRecDepth 100000 in
theorem hi_N_income : InT (.instanceMethod (hY h_N_income)) := InT.of 696 rfl rfl
set_option maxRecDepth 100000 in
theorem hv_N_income : InT (.selects (hY h_N_income).cls (hY h_N_income) (hY h_N_income)) := InT.of 697 rfl rfl
def h_N_weeks : Hd := (⟨"NurseryPlaces", "weeks", "(I)I"⟩, prog_1_method_12_code, 2, (some .int), 6, 145, 2)
set_option maxRecDepth 100000 in
theorem hk_N_weeks : HdOk h_N_weeks 1 := ⟨InT.of 449 rfl rfl, InT.of 1 rfl rfl, by decide, by decide, by decide +kernel⟩
set_option maxRecDepth 100000 in
theorem hi_N_weeks : InT (.instanceMethod (hY h_N_weeks)) := InT.of 447 rfl rfl
set_option maxRecDepth 100000 in
theorem hv_N_weeks : InT (.selects (hY h_N_weeks).cls (hY h_N_weeks) (hY h_N_weeks)) := InT.of 448 rfl rfl
def h_N_wouldAdmit : Hd := (⟨"NurseryPlaces", "wouldAdmit", "()I"⟩, prog_1_method_19_code, 1, (some .int), 6, 148, 1)
set_option maxRecDepth 100000 in
theorem hk_N_wouldAdmit : HdOk h_N_wouldAdmit 0 := ⟨InT.of 635 rfl rfl, InT.of 1 rfl rfl, by decide, by decide, by decide +kernel⟩
set_option maxRecDepth 100000 in
theorem hi_N_wouldAdmit : InT (.instanceMethod (hY h_N_wouldAdmit)) := InT.of 633 rfl rfl
set_option maxRecDepth 100000 in
theorem hv_N_wouldAdmit : InT (.selects (hY h_N_wouldAdmit).cls (hY h_N_wouldAdmit) (hY h_N_wouldAdmit)) := InT.of 634 rfl rfl
def h_Lw_acts : Hd := (⟨"NurseryPlacesLaw", "acts", "(LNurseryPlaces;I)Z"⟩, method_6_code, 22, (some .boolean), 7, 168, 2)
set_option maxRecDepth 100000 in
theorem hk_Lw_acts : HdOk h_Lw_acts 2 := ⟨InT.of 618 rfl rfl, InT.of 0 rfl rfl, by decide, by decide, by decide +kernel⟩
set_option maxRecDepth 100000 in
theorem hs_Lw_acts : InT (.static (hY h_Lw_acts)) := InT.of 617 rfl rfl
def h_Lw_law : Hd := (⟨"NurseryPlacesLaw", "law", "([I)Z"⟩, code, 11, (some .boolean), 8, 209, 1)
set_option maxRecDepth 100000 in
theorem f_Ad_33 : LkF "NurseryPlaces$Admission" 33 1 3 := InT.of 197 rfl rfl
set_option maxRecDepth 100000 in
theorem f_Ad_46 : LkF "NurseryPlaces$Admission" 46 4 1 := InT.of 103 rfl rfl
set_option maxRecDepth 100000 in
theorem f_Ad_25 : LkF "NurseryPlaces$Admission" 25 1 6 := InT.of 207 rfl rfl
set_option maxRecDepth 100000 in
theorem f_Ad_37 : LkF "NurseryPlaces$Admission" 37 4 3 := InT.of 111 rfl rfl
set_option maxRecDepth 100000 in
theorem f_Ca_7 : LkF "NurseryPlaces$Carer" 7 3 0 := InT.of 66 rfl rfl
set_option maxRecDepth 100000 in
theorem f_Ca_13 : LkF "NurseryPlaces$Carer" 13 3 1 := InT.of 69 rfl rfl
set_option maxRecDepth 100000 in
theorem f_Ca_16 : LkF "NurseryPlaces$Carer" 16 3 2 := InT.of 72 rfl rfl
set_option maxRecDepth 100000 in
theorem f_Ca_19 : LkF "NurseryPlaces$Carer" 19 3 3 := InT.of 75 rfl rfl
set_option maxRecDepth 100000 in
theorem f_Ca_22 : LkF "NurseryPlaces$Carer" 22 3 4 := InT.of 78 rfl rfl
set_option maxRecDepth 100000 in
theorem f_Ch_9 : LkF "NurseryPlaces$Child" 9 4 0 := InT.of 98 rfl rfl
set_option maxRecDepth 100000 in
theorem f_Ch_15 : LkF "NurseryPlaces$Child" 15 4 1 := InT.of 102 rfl rfl
set_option maxRecDepth 100000 in
theorem f_Ch_18 : LkF "NurseryPlaces$Child" 18 4 2 := InT.of 106 rfl rfl
set_option maxRecDepth 100000 in
theorem f_Ch_21 : LkF "NurseryPlaces$Child" 21 4 3 := InT.of 110 rfl rfl
set_option maxRecDepth 100000 in
theorem f_Ch_24 : LkF "NurseryPlaces$Child" 24 4 4 := InT.of 115 rfl rfl
set_option maxRecDepth 100000 in
theorem f_Ch_27 : LkF "NurseryPlaces$Child" 27 4 5 := InT.of 121 rfl rfl
set_option maxRecDepth 100000 in
theorem f_Ch_30 : LkF "NurseryPlaces$Child" 30 4 6 := InT.of 127 rfl rfl
set_option maxRecDepth 100000 in
theorem f_Ch_34 : LkF "NurseryPlaces$Child" 34 4 7 := InT.of 132 rfl rfl
set_option maxRecDepth 100000 in
theorem f_Ch_37 : LkF "NurseryPlaces$Child" 37 4 8 := InT.of 136 rfl rfl
set_option maxRecDepth 100000 in
theorem f_Ch_40 : LkF "NurseryPlaces$Child" 40 4 9 := InT.of 140 rfl rfl
set_option maxRecDepth 100000 in
theorem f_Ch_43 : LkF "NurseryPlaces$Child" 43 4 10 := InT.of 143 rfl rfl
set_option maxRecDepth 100000 in
theorem f_Ch_46 : LkF "NurseryPlaces$Child" 46 4 11 := InT.of 146 rfl rfl
set_option maxRecDepth 100000 in
theorem f_Ch_49 : LkF "NurseryPlaces$Child" 49 4 12 := InT.of 149 rfl rfl
set_option maxRecDepth 100000 in
theorem f_Ch_52 : LkF "NurseryPlaces$Child" 52 4 13 := InT.of 152 rfl rfl
set_option maxRecDepth 100000 in
theorem f_Hi_22 : LkF "NurseryPlaces$History" 22 5 2 := InT.of 261 rfl rfl
set_option maxRecDepth 100000 in
theorem f_Hi_18 : LkF "NurseryPlaces$History" 18 5 1 := InT.of 260 rfl rfl
set_option maxRecDepth 100000 in
theorem f_Rm_7 : LkF "NurseryPlaces$Room" 7 2 0 := InT.of 39 rfl rfl
set_option maxRecDepth 100000 in
theorem f_Rm_13 : LkF "NurseryPlaces$Room" 13 2 1 := InT.of 42 rfl rfl
set_option maxRecDepth 100000 in
theorem f_Rm_16 : LkF "NurseryPlaces$Room" 16 2 2 := InT.of 45 rfl rfl
set_option maxRecDepth 100000 in
theorem f_Rm_19 : LkF "NurseryPlaces$Room" 19 2 3 := InT.of 48 rfl rfl
set_option maxRecDepth 100000 in
theorem f_St_46 : LkF "NurseryPlaces$State" 46 1 5 := InT.of 203 rfl rfl
set_option maxRecDepth 100000 in
theorem f_St_23 : LkF "NurseryPlaces$State" 23 1 2 := InT.of 192 rfl rfl
set_option maxRecDepth 100000 in
theorem f_St_110 : LkF "NurseryPlaces$State" 110 3 0 := InT.of 67 rfl rfl
set_option maxRecDepth 100000 in
theorem f_St_49 : LkF "NurseryPlaces$State" 49 1 6 := InT.of 206 rfl rfl
set_option maxRecDepth 100000 in
theorem f_St_29 : LkF "NurseryPlaces$State" 29 1 3 := InT.of 195 rfl rfl
set_option maxRecDepth 100000 in
theorem f_St_129 : LkF "NurseryPlaces$State" 129 4 3 := InT.of 114 rfl rfl
set_option maxRecDepth 100000 in
theorem f_St_162 : LkF "NurseryPlaces$State" 162 4 4 := InT.of 119 rfl rfl
set_option maxRecDepth 100000 in
theorem f_St_42 : LkF "NurseryPlaces$State" 42 1 4 := InT.of 200 rfl rfl
set_option maxRecDepth 100000 in
theorem f_St_113 : LkF "NurseryPlaces$State" 113 3 1 := InT.of 70 rfl rfl
set_option maxRecDepth 100000 in
theorem f_St_116 : LkF "NurseryPlaces$State" 116 3 2 := InT.of 73 rfl rfl
set_option maxRecDepth 100000 in
theorem f_St_117 : LkF "NurseryPlaces$State" 117 3 3 := InT.of 76 rfl rfl
set_option maxRecDepth 100000 in
theorem f_St_118 : LkF "NurseryPlaces$State" 118 3 4 := InT.of 79 rfl rfl
set_option maxRecDepth 100000 in
theorem f_St_178 : LkF "NurseryPlaces$State" 178 4 8 := InT.of 139 rfl rfl
set_option maxRecDepth 100000 in
theorem f_St_175 : LkF "NurseryPlaces$State" 175 4 6 := InT.of 131 rfl rfl
set_option maxRecDepth 100000 in
theorem f_Wk_31 : LkF "NurseryPlaces$Week" 31 1 7 := InT.of 212 rfl rfl
set_option maxRecDepth 100000 in
theorem f_Wk_136 : LkF "NurseryPlaces$Week" 136 1 5 := InT.of 204 rfl rfl
set_option maxRecDepth 100000 in
theorem f_Wk_139 : LkF "NurseryPlaces$Week" 139 1 2 := InT.of 193 rfl rfl
set_option maxRecDepth 100000 in
theorem f_Wk_143 : LkF "NurseryPlaces$Week" 143 3 4 := InT.of 80 rfl rfl
set_option maxRecDepth 100000 in
theorem f_Wk_70 : LkF "NurseryPlaces$Week" 70 1 6 := InT.of 209 rfl rfl
set_option maxRecDepth 100000 in
theorem f_Wk_60 : LkF "NurseryPlaces$Week" 60 1 3 := InT.of 198 rfl rfl
set_option maxRecDepth 100000 in
theorem f_Wk_148 : LkF "NurseryPlaces$Week" 148 4 8 := InT.of 137 rfl rfl
set_option maxRecDepth 100000 in
theorem f_Wk_133 : LkF "NurseryPlaces$Week" 133 4 3 := InT.of 112 rfl rfl
set_option maxRecDepth 100000 in
theorem f_Wk_151 : LkF "NurseryPlaces$Week" 151 4 0 := InT.of 100 rfl rfl
set_option maxRecDepth 100000 in
theorem f_Wk_126 : LkF "NurseryPlaces$Week" 126 4 1 := InT.of 104 rfl rfl
set_option maxRecDepth 100000 in
theorem f_Wk_129 : LkF "NurseryPlaces$Week" 129 1 0 := InT.of 187 rfl rfl
set_option maxRecDepth 100000 in
theorem f_Wk_103 : LkF "NurseryPlaces$Week" 103 4 6 := InT.of 129 rfl rfl
set_option maxRecDepth 100000 in
theorem f_Wk_110 : LkF "NurseryPlaces$Week" 110 4 7 := InT.of 133 rfl rfl
set_option maxRecDepth 100000 in
theorem m_Ch_62 : InT (.methodLink "NurseryPlaces$Child" 62 (hY h_Ch_has)) := InT.of 467 rfl rfl
set_option maxRecDepth 100000 in
theorem m_Ch_59 : InT (.methodLink "NurseryPlaces$Child" 59 (hY h_Ch_quitRoom)) := InT.of 511 rfl rfl
set_option maxRecDepth 100000 in
theorem m_N_99 : InT (.methodLink "NurseryPlaces" 99 (hY h_N_isWithin)) := InT.of 378 rfl rfl
set_option maxRecDepth 100000 in
theorem f_N_10 : LkF "NurseryPlaces" 10 0 0 := InT.of 294 rfl rfl
set_option maxRecDepth 100000 in
theorem m_N_202 : InT (.methodLink "NurseryPlaces" 202 (hY h_St_childrenInState)) := InT.of 534 rfl rfl
set_option maxRecDepth 100000 in
theorem f_N_205 : LkF "NurseryPlaces" 205 1 0 := InT.of 188 rfl rfl
set_option maxRecDepth 100000 in
theorem f_N_209 : LkF "NurseryPlaces" 209 1 7 := InT.of 213 rfl rfl
set_option maxRecDepth 100000 in
theorem f_N_212 : LkF "NurseryPlaces" 212 1 4 := InT.of 202 rfl rfl
set_option maxRecDepth 100000 in
theorem f_N_215 : LkF "NurseryPlaces" 215 1 5 := InT.of 205 rfl rfl
set_option maxRecDepth 100000 in
theorem f_N_218 : LkF "NurseryPlaces" 218 1 6 := InT.of 210 rfl rfl
set_option maxRecDepth 100000 in
theorem m_N_221 : InT (.methodLink "NurseryPlaces" 221 (hY h_St_settledChildren)) := InT.of 538 rfl rfl
set_option maxRecDepth 100000 in
theorem f_N_225 : LkF "NurseryPlaces" 225 1 9 := InT.of 218 rfl rfl
set_option maxRecDepth 100000 in
theorem f_N_226 : LkF "NurseryPlaces" 226 1 10 := InT.of 221 rfl rfl
set_option maxRecDepth 100000 in
theorem f_N_229 : LkF "NurseryPlaces" 229 1 11 := InT.of 224 rfl rfl
set_option maxRecDepth 100000 in
theorem m_N_230 : InT (.methodLink "NurseryPlaces" 230 (hY h_St_plannedVisits)) := InT.of 542 rfl rfl
set_option maxRecDepth 100000 in
theorem f_N_37 : LkF "NurseryPlaces" 37 0 5 := InT.of 299 rfl rfl
set_option maxRecDepth 100000 in
theorem f_N_233 : LkF "NurseryPlaces" 233 6 1 := InT.of 277 rfl rfl
set_option maxRecDepth 100000 in
theorem f_N_22 : LkF "NurseryPlaces" 22 0 2 := InT.of 296 rfl rfl
set_option maxRecDepth 100000 in
theorem f_N_236 : LkF "NurseryPlaces" 236 5 2 := InT.of 262 rfl rfl
set_option maxRecDepth 100000 in
theorem m_N_135 : InT (.methodLink "NurseryPlaces" 135 (hY h_St_hasCarer)) := InT.of 588 rfl rfl
set_option maxRecDepth 100000 in
theorem f_N_138 : LkF "NurseryPlaces" 138 1 2 := InT.of 194 rfl rfl
set_option maxRecDepth 100000 in
theorem f_N_142 : LkF "NurseryPlaces" 142 3 0 := InT.of 68 rfl rfl
set_option maxRecDepth 100000 in
theorem f_N_147 : LkF "NurseryPlaces" 147 3 1 := InT.of 71 rfl rfl
set_option maxRecDepth 100000 in
theorem f_N_150 : LkF "NurseryPlaces" 150 3 2 := InT.of 74 rfl rfl
set_option maxRecDepth 100000 in
theorem f_N_151 : LkF "NurseryPlaces" 151 3 3 := InT.of 77 rfl rfl
set_option maxRecDepth 100000 in
theorem f_N_152 : LkF "NurseryPlaces" 152 3 4 := InT.of 81 rfl rfl
set_option maxRecDepth 100000 in
theorem m_N_156 : InT (.methodLink "NurseryPlaces" 156 (hY h_St_hasChild)) := InT.of 596 rfl rfl
set_option maxRecDepth 100000 in
theorem f_N_159 : LkF "NurseryPlaces" 159 1 3 := InT.of 199 rfl rfl
set_option maxRecDepth 100000 in
theorem f_N_163 : LkF "NurseryPlaces" 163 4 0 := InT.of 101 rfl rfl
set_option maxRecDepth 100000 in
theorem f_N_168 : LkF "NurseryPlaces" 168 4 1 := InT.of 105 rfl rfl
set_option maxRecDepth 100000 in
theorem f_N_171 : LkF "NurseryPlaces" 171 4 2 := InT.of 108 rfl rfl
set_option maxRecDepth 100000 in
theorem f_N_174 : LkF "NurseryPlaces" 174 4 3 := InT.of 113 rfl rfl
set_option maxRecDepth 100000 in
theorem f_N_177 : LkF "NurseryPlaces" 177 4 4 := InT.of 120 rfl rfl
set_option maxRecDepth 100000 in
theorem f_N_178 : LkF "NurseryPlaces" 178 4 5 := InT.of 125 rfl rfl
set_option maxRecDepth 100000 in
theorem f_N_181 : LkF "NurseryPlaces" 181 4 6 := InT.of 130 rfl rfl
set_option maxRecDepth 100000 in
theorem f_N_184 : LkF "NurseryPlaces" 184 4 7 := InT.of 134 rfl rfl
set_option maxRecDepth 100000 in
theorem f_N_187 : LkF "NurseryPlaces" 187 4 8 := InT.of 138 rfl rfl
set_option maxRecDepth 100000 in
theorem f_N_190 : LkF "NurseryPlaces" 190 4 9 := InT.of 142 rfl rfl
set_option maxRecDepth 100000 in
theorem f_N_193 : LkF "NurseryPlaces" 193 4 10 := InT.of 145 rfl rfl
set_option maxRecDepth 100000 in
theorem f_N_196 : LkF "NurseryPlaces" 196 4 11 := InT.of 148 rfl rfl
set_option maxRecDepth 100000 in
theorem f_N_199 : LkF "NurseryPlaces" 199 4 12 := InT.of 151 rfl rfl
set_option maxRecDepth 100000 in
theorem m_St_77 : InT (.methodLinkNest "NurseryPlaces$State" 77 (hY h_N_isWithin) "NurseryPlaces") := InT.of 344 rfl rfl
set_option maxRecDepth 100000 in
theorem f_St_17 : LkF "NurseryPlaces$State" 17 1 1 := InT.of 189 rfl rfl
set_option maxRecDepth 100000 in
theorem f_St_87 : LkF "NurseryPlaces$State" 87 2 0 := InT.of 40 rfl rfl
set_option maxRecDepth 100000 in
theorem f_St_90 : LkF "NurseryPlaces$State" 90 2 1 := InT.of 43 rfl rfl
set_option maxRecDepth 100000 in
theorem f_St_93 : LkF "NurseryPlaces$State" 93 2 2 := InT.of 46 rfl rfl
set_option maxRecDepth 100000 in
theorem f_St_96 : LkF "NurseryPlaces$State" 96 2 3 := InT.of 49 rfl rfl
set_option maxRecDepth 100000 in
theorem f_St_81 : InT (.fieldLinkNest "NurseryPlaces$State" 81 "NurseryPlaces" "LOWEST_SETTING" "[I" "NurseryPlaces") := InT.of 347 rfl rfl
set_option maxRecDepth 100000 in
theorem f_St_84 : InT (.fieldLinkNest "NurseryPlaces$State" 84 "NurseryPlaces" "HIGHEST_SETTING" "[I" "NurseryPlaces") := InT.of 349 rfl rfl
set_option maxRecDepth 100000 in
theorem f_St_9 : LkF "NurseryPlaces$State" 9 1 0 := InT.of 184 rfl rfl
set_option maxRecDepth 100000 in
theorem m_St_36 : InT (.methodLink "NurseryPlaces$State" 36 (arraycopyName)) := InT.of 325 rfl rfl
set_option maxRecDepth 100000 in
theorem f_St_52 : LkF "NurseryPlaces$State" 52 1 7 := InT.of 211 rfl rfl
set_option maxRecDepth 100000 in
theorem f_St_55 : LkF "NurseryPlaces$State" 55 1 8 := InT.of 214 rfl rfl
set_option maxRecDepth 100000 in
theorem f_St_58 : LkF "NurseryPlaces$State" 58 1 9 := InT.of 216 rfl rfl
set_option maxRecDepth 100000 in
theorem f_St_61 : LkF "NurseryPlaces$State" 61 1 10 := InT.of 219 rfl rfl
set_option maxRecDepth 100000 in
theorem f_St_64 : LkF "NurseryPlaces$State" 64 1 11 := InT.of 222 rfl rfl
set_option maxRecDepth 100000 in
theorem m_St_67 : InT (.methodLink "NurseryPlaces$State" 67 (hY h_Rm_copyFrom)) := InT.of 328 rfl rfl
set_option maxRecDepth 100000 in
theorem m_St_71 : InT (.methodLink "NurseryPlaces$State" 71 (hY h_Ca_copyFrom)) := InT.of 332 rfl rfl
set_option maxRecDepth 100000 in
theorem m_St_74 : InT (.methodLink "NurseryPlaces$State" 74 (hY h_Ch_copyFrom)) := InT.of 336 rfl rfl
set_option maxRecDepth 100000 in
theorem m_St_99 : InT (.methodLink "NurseryPlaces$State" 99 (hY h_St_hasRoom)) := InT.of 371 rfl rfl
set_option maxRecDepth 100000 in
theorem m_St_148 : InT (.methodLink "NurseryPlaces$State" 148 (hY h_Ca_isOnDuty)) := InT.of 426 rfl rfl
set_option maxRecDepth 100000 in
theorem m_St_152 : InT (.methodLink "NurseryPlaces$State" 152 (Lib.Math.min.name)) := InT.of 430 rfl rfl
set_option maxRecDepth 100000 in
theorem m_St_145 : InT (.methodLink "NurseryPlaces$State" 145 (hY h_St_hasCarer)) := InT.of 687 rfl rfl
set_option maxRecDepth 100000 in
theorem m_St_172 : InT (.methodLink "NurseryPlaces$State" 172 (hY h_Rm_isFor)) := InT.of 403 rfl rfl
set_option maxRecDepth 100000 in
theorem m_St_163 : InT (.methodLink "NurseryPlaces$State" 163 (hY h_Ch_has)) := InT.of 418 rfl rfl
set_option maxRecDepth 100000 in
theorem f_Wk_113 : LkF "NurseryPlaces$Week" 113 1 10 := InT.of 220 rfl rfl
set_option maxRecDepth 100000 in
theorem m_Wk_116 : InT (.methodLink "NurseryPlaces$Week" 116 (hY h_Wk_feeFor)) := InT.of 484 rfl rfl
set_option maxRecDepth 100000 in
theorem f_Wk_119 : LkF "NurseryPlaces$Week" 119 4 9 := InT.of 141 rfl rfl
set_option maxRecDepth 100000 in
theorem f_Wk_122 : LkF "NurseryPlaces$Week" 122 4 11 := InT.of 147 rfl rfl
set_option maxRecDepth 100000 in
theorem f_Wk_125 : LkF "NurseryPlaces$Week" 125 1 9 := InT.of 217 rfl rfl
set_option maxRecDepth 100000 in
theorem f_Wk_186 : LkF "NurseryPlaces$Week" 186 4 12 := InT.of 150 rfl rfl
set_option maxRecDepth 100000 in
theorem m_Wk_173 : InT (.methodLink "NurseryPlaces$Week" 173 (hY h_Ch_quitRoom)) := InT.of 502 rfl rfl
set_option maxRecDepth 100000 in
theorem m_Wk_73 : InT (.methodLinkNest "NurseryPlaces$Week" 73 (hY h_N_holds) "NurseryPlaces") := InT.of 479 rfl rfl
set_option maxRecDepth 100000 in
theorem f_Wk_107 : LkF "NurseryPlaces$Week" 107 4 13 := InT.of 154 rfl rfl
set_option maxRecDepth 100000 in
theorem m_Ch_55 : InT (.methodLink "NurseryPlaces$Child" 55 (hY h_Ch_waitAgain)) := InT.of 631 rfl rfl
set_option maxRecDepth 100000 in
theorem f_Hi_13 : LkF "NurseryPlaces$History" 13 5 0 := InT.of 259 rfl rfl
set_option maxRecDepth 100000 in
theorem m_Hi_25 : InT (.methodLink "NurseryPlaces$History" 25 (hY h_St_copyFrom)) := InT.of 321 rfl rfl
set_option maxRecDepth 100000 in
theorem m_N_95 : InT (.methodLink "NurseryPlaces" 95 (hY h_St_hasRoom)) := InT.of 519 rfl rfl
set_option maxRecDepth 100000 in
theorem m_N_239 : InT (.methodLink "NurseryPlaces" 239 (hY h_N_isSession)) := InT.of 601 rfl rfl
set_option maxRecDepth 100000 in
theorem m_N_103 : InT (.methodLink "NurseryPlaces" 103 (hY h_St_placesIn)) := InT.of 520 rfl rfl
set_option maxRecDepth 100000 in
theorem m_N_107 : InT (.methodLink "NurseryPlaces" 107 (hY h_St_takenIn)) := InT.of 521 rfl rfl
set_option maxRecDepth 100000 in
theorem m_N_242 : InT (.methodLink "NurseryPlaces" 242 (Lib.Math.max.name)) := InT.of 604 rfl rfl
set_option maxRecDepth 100000 in
theorem f_N_110 : LkF "NurseryPlaces" 110 1 1 := InT.of 191 rfl rfl
set_option maxRecDepth 100000 in
theorem f_N_114 : LkF "NurseryPlaces" 114 2 0 := InT.of 41 rfl rfl
set_option maxRecDepth 100000 in
theorem f_N_120 : LkF "NurseryPlaces" 120 2 1 := InT.of 44 rfl rfl
set_option maxRecDepth 100000 in
theorem f_N_123 : LkF "NurseryPlaces" 123 2 2 := InT.of 47 rfl rfl
set_option maxRecDepth 100000 in
theorem f_N_126 : LkF "NurseryPlaces" 126 2 3 := InT.of 50 rfl rfl
set_option maxRecDepth 100000 in
theorem m_N_129 : InT (.methodLink "NurseryPlaces" 129 (hY h_St_carersOf)) := InT.of 522 rfl rfl
set_option maxRecDepth 100000 in
theorem m_N_132 : InT (.methodLink "NurseryPlaces" 132 (hY h_St_childrenOf)) := InT.of 526 rfl rfl
set_option maxRecDepth 100000 in
theorem m_N_299 : InT (.methodLink "NurseryPlaces" 299 (hY h_N_isSlot)) := InT.of 569 rfl rfl
set_option maxRecDepth 100000 in
theorem f_N_26 : LkF "NurseryPlaces" 26 0 3 := InT.of 297 rfl rfl
set_option maxRecDepth 100000 in
theorem m_N_250 : InT (.methodLink "NurseryPlaces" 250 (hY h_St_copyFrom)) := InT.of 551 rfl rfl
set_option maxRecDepth 100000 in
theorem f_N_30 : LkF "NurseryPlaces" 30 0 4 := InT.of 298 rfl rfl
set_option maxRecDepth 100000 in
theorem m_Se_9 : InT (.methodLink "NurseryPlaces$Sessions" 9 (hY h_St_hasChild)) := InT.of 643 rfl rfl
set_option maxRecDepth 100000 in
theorem m_Se_15 : InT (.methodLinkNest "NurseryPlaces$Sessions" 15 (hY h_N_isSession) "NurseryPlaces") := InT.of 644 rfl rfl
set_option maxRecDepth 100000 in
theorem f_Se_18 : LkF "NurseryPlaces$Sessions" 18 1 3 := InT.of 196 rfl rfl
set_option maxRecDepth 100000 in
theorem m_Se_35 : InT (.methodLink "NurseryPlaces$Sessions" 35 (hY h_Ch_has)) := InT.of 645 rfl rfl
set_option maxRecDepth 100000 in
theorem f_Se_66 : LkF "NurseryPlaces$Sessions" 66 4 5 := InT.of 122 rfl rfl
set_option maxRecDepth 100000 in
theorem m_Se_73 : InT (.methodLink "NurseryPlaces$Sessions" 73 (hY h_Int_bitCount)) := InT.of 659 rfl rfl
set_option maxRecDepth 100000 in
theorem f_Se_79 : LkF "NurseryPlaces$Sessions" 79 1 0 := InT.of 186 rfl rfl
set_option maxRecDepth 100000 in
theorem m_Se_51 : InT (.methodLink "NurseryPlaces$Sessions" 51 (hY h_St_takenIn)) := InT.of 649 rfl rfl
set_option maxRecDepth 100000 in
theorem f_Se_55 : LkF "NurseryPlaces$Sessions" 55 1 6 := InT.of 208 rfl rfl
set_option maxRecDepth 100000 in
theorem f_Se_38 : LkF "NurseryPlaces$Sessions" 38 4 4 := InT.of 116 rfl rfl
set_option maxRecDepth 100000 in
theorem f_Se_32 : LkF "NurseryPlaces$Sessions" 32 4 8 := InT.of 135 rfl rfl
set_option maxRecDepth 100000 in
theorem m_Se_58 : InT (.methodLink "NurseryPlaces$Sessions" 58 (hY h_St_placesIn)) := InT.of 650 rfl rfl
set_option maxRecDepth 100000 in
theorem m_St_103 : InT (.methodLinkNest "NurseryPlaces$State" 103 (hY h_N_isShift) "NurseryPlaces") := InT.of 375 rfl rfl
set_option maxRecDepth 100000 in
theorem m_St_106 : InT (.methodLink "NurseryPlaces$State" 106 (hY h_St_hire)) := InT.of 379 rfl rfl
set_option maxRecDepth 100000 in
theorem m_St_166 : InT (.methodLink "NurseryPlaces$State" 166 (hY h_St_takenIn)) := InT.of 414 rfl rfl
set_option maxRecDepth 100000 in
theorem m_St_158 : InT (.methodLink "NurseryPlaces$State" 158 (hY h_St_placesIn)) := InT.of 422 rfl rfl
set_option maxRecDepth 100000 in
theorem m_St_169 : InT (.methodLinkNest "NurseryPlaces$State" 169 (hY h_N_holds) "NurseryPlaces") := InT.of 411 rfl rfl
set_option maxRecDepth 100000 in
theorem f_Wk_81 : LkF "NurseryPlaces$Week" 81 4 4 := InT.of 117 rfl rfl
set_option maxRecDepth 100000 in
theorem m_Wk_84 : InT (.methodLink "NurseryPlaces$Week" 84 (hY h_Ch_comesTo)) := InT.of 463 rfl rfl
set_option maxRecDepth 100000 in
theorem m_Wk_87 : InT (.methodLink "NurseryPlaces$Week" 87 (hY h_Int_bitCount)) := InT.of 471 rfl rfl
set_option maxRecDepth 100000 in
theorem m_Wk_93 : InT (.methodLink "NurseryPlaces$Week" 93 (hY h_St_placesIn)) := InT.of 472 rfl rfl
set_option maxRecDepth 100000 in
theorem m_Wk_97 : InT (.methodLink "NurseryPlaces$Week" 97 (Lib.Math.max.name)) := InT.of 473 rfl rfl
set_option maxRecDepth 100000 in
theorem f_Ad_52 : LkF "NurseryPlaces$Admission" 52 4 0 := InT.of 99 rfl rfl
set_option maxRecDepth 100000 in
theorem m_Ad_55 : InT (.methodLink "NurseryPlaces$Admission" 55 (hY h_St_roomOfAge)) := InT.of 399 rfl rfl
set_option maxRecDepth 100000 in
theorem f_Ad_76 : LkF "NurseryPlaces$Admission" 76 4 2 := InT.of 107 rfl rfl
set_option maxRecDepth 100000 in
theorem m_Ad_79 : InT (.methodLink "NurseryPlaces$Admission" 79 (hY h_St_openOnes)) := InT.of 407 rfl rfl
set_option maxRecDepth 100000 in
theorem m_Ad_83 : InT (.methodLink "NurseryPlaces$Admission" 83 (hY h_Int_bitCount)) := InT.of 433 rfl rfl
set_option maxRecDepth 100000 in
theorem f_Ad_62 : LkF "NurseryPlaces$Admission" 62 1 0 := InT.of 185 rfl rfl
set_option maxRecDepth 100000 in
theorem m_Lw_9 : InT (.methodLink "NurseryPlacesLaw" 9 (hY h_N_count)) := InT.of 530 rfl rfl
set_option maxRecDepth 100000 in
theorem m_Lw_15 : InT (.methodLink "NurseryPlacesLaw" 15 (hY h_N_ofRoom)) := InT.of 515 rfl rfl
set_option maxRecDepth 100000 in
theorem m_Lw_19 : InT (.methodLink "NurseryPlacesLaw" 19 (hY h_N_ofCarer)) := InT.of 584 rfl rfl
set_option maxRecDepth 100000 in
theorem m_Lw_22 : InT (.methodLink "NurseryPlacesLaw" 22 (hY h_N_ofChild)) := InT.of 592 rfl rfl
set_option maxRecDepth 100000 in
theorem m_Lw_25 : InT (.methodLink "NurseryPlacesLaw" 25 (hY h_N_free)) := InT.of 597 rfl rfl
set_option maxRecDepth 100000 in
theorem m_N_41 : InT (.methodLink "NurseryPlaces" 41 (hY h_Hi_note)) := InT.of 317 rfl rfl
set_option maxRecDepth 100000 in
theorem m_N_57 : InT (.methodLink "NurseryPlaces" 57 (hY h_St_addCarer)) := InT.of 367 rfl rfl
set_option maxRecDepth 100000 in
theorem m_N_49 : InT (.methodLink "NurseryPlaces" 49 (hY h_Hi_keepIfDone)) := InT.of 351 rfl rfl
set_option maxRecDepth 100000 in
theorem m_N_83 : InT (.methodLink "NurseryPlaces" 83 (hY h_Se_handBack)) := InT.of 656 rfl rfl
set_option maxRecDepth 100000 in
theorem m_N_260 : InT (.methodLink "NurseryPlaces" 260 (hY h_N_isShift)) := InT.of 550 rfl rfl
set_option maxRecDepth 100000 in
theorem f_N_16 : LkF "NurseryPlaces" 16 0 1 := InT.of 295 rfl rfl
set_option maxRecDepth 100000 in
theorem m_N_263 : InT (.methodLink "NurseryPlaces" 263 (hY h_St_hire)) := InT.of 552 rfl rfl
set_option maxRecDepth 100000 in
theorem m_N_266 : InT (.methodLink "NurseryPlaces" 266 (hY h_St_placesInAll)) := InT.of 553 rfl rfl
set_option maxRecDepth 100000 in
theorem m_N_53 : InT (.methodLink "NurseryPlaces" 53 (hY h_St_addRoom)) := InT.of 359 rfl rfl
set_option maxRecDepth 100000 in
theorem m_N_45 : InT (.methodLink "NurseryPlaces" 45 (hY h_St_changeSetting)) := InT.of 340 rfl rfl
set_option maxRecDepth 100000 in
theorem m_N_86 : InT (.methodLink "NurseryPlaces" 86 (hY h_St_reportSick)) := InT.of 683 rfl rfl
set_option maxRecDepth 100000 in
theorem m_N_296 : InT (.methodLink "NurseryPlaces" 296 (hY h_Hi_takeBack)) := InT.of 561 rfl rfl
set_option maxRecDepth 100000 in
theorem m_Se_69 : InT (.methodLink "NurseryPlaces$Sessions" 69 (hY h_St_isOpen)) := InT.of 667 rfl rfl
set_option maxRecDepth 100000 in
theorem f_Se_22 : LkF "NurseryPlaces$Sessions" 22 4 3 := InT.of 109 rfl rfl
set_option maxRecDepth 100000 in
theorem f_Se_28 : LkF "NurseryPlaces$Sessions" 28 4 6 := InT.of 126 rfl rfl
set_option maxRecDepth 100000 in
theorem m_Se_41 : InT (.methodLink "NurseryPlaces$Sessions" 41 (hY h_Se_hasPlaceForVisit)) := InT.of 646 rfl rfl
set_option maxRecDepth 100000 in
theorem m_Se_47 : InT (.methodLink "NurseryPlaces$Sessions" 47 (hY h_St_plannedVisits)) := InT.of 651 rfl rfl
set_option maxRecDepth 100000 in
theorem m_St_122 : InT (.methodLink "NurseryPlaces$State" 122 (hY h_Ch_come)) := InT.of 627 rfl rfl
set_option maxRecDepth 100000 in
theorem f_Wk_37 : LkF "NurseryPlaces$Week" 37 1 4 := InT.of 201 rfl rfl
set_option maxRecDepth 100000 in
theorem m_Wk_44 : InT (.methodLink "NurseryPlaces$Week" 44 (hY h_Wk_comersTo)) := InT.of 460 rfl rfl
set_option maxRecDepth 100000 in
theorem m_Wk_48 : InT (.methodLink "NurseryPlaces$Week" 48 (hY h_Wk_tooMany)) := InT.of 468 rfl rfl
set_option maxRecDepth 100000 in
theorem m_Wk_52 : InT (.methodLink "NurseryPlaces$Week" 52 (hY h_Wk_nextSentHome)) := InT.of 476 rfl rfl
set_option maxRecDepth 100000 in
theorem m_Wk_56 : InT (.methodLink "NurseryPlaces$Week" 56 (hY h_St_hasChild)) := InT.of 480 rfl rfl
set_option maxRecDepth 100000 in
theorem f_Wk_64 : LkF "NurseryPlaces$Week" 64 4 10 := InT.of 144 rfl rfl
set_option maxRecDepth 100000 in
theorem f_Wk_69 : LkF "NurseryPlaces$Week" 69 1 11 := InT.of 223 rfl rfl
set_option maxRecDepth 100000 in
theorem m_Wk_77 : InT (.methodLink "NurseryPlaces$Week" 77 (hY h_Wk_bookCame)) := InT.of 481 rfl rfl
set_option maxRecDepth 100000 in
theorem m_Wk_170 : InT (.methodLink "NurseryPlaces$Week" 170 (hY h_St_roomOfAge)) := InT.of 501 rfl rfl
set_option maxRecDepth 100000 in
theorem f_Wk_177 : LkF "NurseryPlaces$Week" 177 4 5 := InT.of 124 rfl rfl
set_option maxRecDepth 100000 in
theorem m_Wk_180 : InT (.methodLink "NurseryPlaces$Week" 180 (hY h_St_openOnes)) := InT.of 506 rfl rfl
set_option maxRecDepth 100000 in
theorem m_Wk_183 : InT (.methodLink "NurseryPlaces$Week" 183 (hY h_Ch_waitAgain)) := InT.of 507 rfl rfl
set_option maxRecDepth 100000 in
theorem m_Ad_29 : InT (.methodLink "NurseryPlaces$Admission" 29 (hY h_Ad_hasPlacedSibling)) := InT.of 393 rfl rfl
set_option maxRecDepth 100000 in
theorem m_Ad_42 : InT (.methodLink "NurseryPlaces$Admission" 42 (hY h_Ad_sessionsFor)) := InT.of 396 rfl rfl
set_option maxRecDepth 100000 in
theorem f_Ad_49 : LkF "NurseryPlaces$Admission" 49 4 5 := InT.of 123 rfl rfl
set_option maxRecDepth 100000 in
theorem f_Ad_59 : LkF "NurseryPlaces$Admission" 59 4 4 := InT.of 118 rfl rfl
set_option maxRecDepth 100000 in
theorem f_Ad_66 : LkF "NurseryPlaces$Admission" 66 4 6 := InT.of 128 rfl rfl
set_option maxRecDepth 100000 in
theorem f_Ad_70 : LkF "NurseryPlaces$Admission" 70 1 8 := InT.of 215 rfl rfl
set_option maxRecDepth 100000 in
theorem f_Ad_73 : LkF "NurseryPlaces$Admission" 73 4 13 := InT.of 153 rfl rfl
set_option maxRecDepth 100000 in
theorem m_N_60 : InT (.methodLink "NurseryPlaces" 60 (hY h_St_addChild)) := InT.of 623 rfl rfl
set_option maxRecDepth 100000 in
theorem m_N_253 : InT (.methodLink "NurseryPlaces" 253 (hY h_Se_canExchange)) := InT.of 664 rfl rfl
set_option maxRecDepth 100000 in
theorem m_N_257 : InT (.methodLink "NurseryPlaces" 257 (hY h_Wk_countTooMany)) := InT.of 688 rfl rfl
set_option maxRecDepth 100000 in
theorem m_N_73 : InT (.methodLink "NurseryPlaces" 73 (hY h_Se_planVisit)) := InT.of 640 rfl rfl
set_option maxRecDepth 100000 in
theorem m_N_247 : InT (.methodLink "NurseryPlaces" 247 (hY h_Ad_sessionsFor)) := InT.of 612 rfl rfl
set_option maxRecDepth 100000 in
theorem m_Se_62 : InT (.methodLink "NurseryPlaces$Sessions" 62 (hY h_Se_canExchange)) := InT.of 678 rfl rfl
set_option maxRecDepth 100000 in
theorem m_Wk_40 : InT (.methodLink "NurseryPlaces$Week" 40 (hY h_Wk_holdSession)) := InT.of 457 rfl rfl
set_option maxRecDepth 100000 in
theorem m_Wk_154 : InT (.methodLink "NurseryPlaces$Week" 154 (hY h_St_hasRoom)) := InT.of 496 rfl rfl
set_option maxRecDepth 100000 in
theorem f_Wk_157 : LkF "NurseryPlaces$Week" 157 1 1 := InT.of 190 rfl rfl
set_option maxRecDepth 100000 in
theorem m_Wk_161 : InT (.methodLink "NurseryPlaces$Week" 161 (hY h_Rm_isFor)) := InT.of 497 rfl rfl
set_option maxRecDepth 100000 in
theorem m_Wk_166 : InT (.methodLink "NurseryPlaces$Week" 166 (hY h_Wk_move)) := InT.of 498 rfl rfl
set_option maxRecDepth 100000 in
theorem m_Ad_9 : InT (.methodLink "NurseryPlaces$Admission" 9 (hY h_Ad_nextOnList)) := InT.of 390 rfl rfl
set_option maxRecDepth 100000 in
theorem m_Ad_15 : InT (.methodLink "NurseryPlaces$Admission" 15 (hY h_St_hasChild)) := InT.of 439 rfl rfl
set_option maxRecDepth 100000 in
theorem m_Ad_21 : InT (.methodLink "NurseryPlaces$Admission" 21 (hY h_Ad_place)) := InT.of 443 rfl rfl
set_option maxRecDepth 100000 in
theorem m_Lw_28 : InT (.methodLink "NurseryPlacesLaw" 28 (hY h_N_wouldGet)) := InT.of 608 rfl rfl
set_option maxRecDepth 100000 in
theorem m_Lw_31 : InT (.methodLink "NurseryPlacesLaw" 31 (hY h_Lw_ones)) := InT.of 613 rfl rfl
set_option maxRecDepth 100000 in
theorem m_N_79 : InT (.methodLink "NurseryPlaces" 79 (hY h_Se_exchange)) := InT.of 675 rfl rfl
set_option maxRecDepth 100000 in
theorem m_Wk_9 : InT (.methodLinkNest "NurseryPlaces$Week" 9 (hY h_N_isWithin) "NurseryPlaces") := InT.of 453 rfl rfl
set_option maxRecDepth 100000 in
theorem m_Wk_13 : InT (.methodLink "NurseryPlaces$Week" 13 (hY h_Wk_holdSessions)) := InT.of 454 rfl rfl
set_option maxRecDepth 100000 in
theorem m_Wk_19 : InT (.methodLink "NurseryPlaces$Week" 19 (hY h_Wk_settle)) := InT.of 487 rfl rfl
set_option maxRecDepth 100000 in
theorem m_Wk_22 : InT (.methodLink "NurseryPlaces$Week" 22 (hY h_Wk_beginWeek)) := InT.of 490 rfl rfl
set_option maxRecDepth 100000 in
theorem m_Wk_25 : InT (.methodLink "NurseryPlaces$Week" 25 (hY h_Wk_moveGrown)) := InT.of 493 rfl rfl
set_option maxRecDepth 100000 in
theorem m_Wk_28 : InT (.methodLink "NurseryPlaces$Week" 28 (hY h_Wk_dropImpatient)) := InT.of 512 rfl rfl
set_option maxRecDepth 100000 in
theorem m_N_67 : InT (.methodLink "NurseryPlaces" 67 (hY h_Ad_admitAll)) := InT.of 387 rfl rfl
set_option maxRecDepth 100000 in
theorem m_N_89 : InT (.methodLink "NurseryPlaces" 89 (hY h_Wk_passWeeks)) := InT.of 450 rfl rfl
set_option maxRecDepth 100000 in
theorem m_Lw_36 : InT (.methodLink "NurseryPlacesLaw" 36 (hY h_N_child)) := InT.of 619 rfl rfl
set_option maxRecDepth 100000 in
theorem m_Lw_40 : InT (.methodLink "NurseryPlacesLaw" 40 (hY h_N_wouldAdmit)) := InT.of 632 rfl rfl
set_option maxRecDepth 100000 in
theorem m_Lw_44 : InT (.methodLink "NurseryPlacesLaw" 44 (hY h_N_admit)) := InT.of 383 rfl rfl
set_option maxRecDepth 100000 in
theorem m_Lw_47 : InT (.methodLink "NurseryPlacesLaw" 47 (hY h_N_visit)) := InT.of 636 rfl rfl
set_option maxRecDepth 100000 in
theorem m_Lw_50 : InT (.methodLink "NurseryPlacesLaw" 50 (hY h_N_giveBack)) := InT.of 652 rfl rfl
set_option maxRecDepth 100000 in
theorem m_Lw_53 : InT (.methodLink "NurseryPlacesLaw" 53 (hY h_N_partners)) := InT.of 660 rfl rfl
set_option maxRecDepth 100000 in
theorem m_Lw_56 : InT (.methodLink "NurseryPlacesLaw" 56 (hY h_N_swap)) := InT.of 671 rfl rfl
set_option maxRecDepth 100000 in
theorem m_Lw_60 : InT (.methodLink "NurseryPlacesLaw" 60 (hY h_N_sentHome)) := InT.of 679 rfl rfl
set_option maxRecDepth 100000 in
theorem m_Lw_63 : InT (.methodLink "NurseryPlacesLaw" 63 (hY h_N_sick)) := InT.of 691 rfl rfl
set_option maxRecDepth 100000 in
theorem m_Lw_66 : InT (.methodLink "NurseryPlacesLaw" 66 (hY h_N_income)) := InT.of 695 rfl rfl
set_option maxRecDepth 100000 in
theorem m_Lw_69 : InT (.methodLink "NurseryPlacesLaw" 69 (hY h_N_weeks)) := InT.of 446 rfl rfl
set_option maxRecDepth 100000 in
theorem m_Lw_73 : InT (.methodLink "NurseryPlacesLaw" 73 (hY h_Lw_cell)) := InT.of 576 rfl rfl
set_option maxRecDepth 100000 in
theorem m_Lw_77 : InT (.methodLink "NurseryPlacesLaw" 77 (hY h_N_set)) := InT.of 313 rfl rfl
set_option maxRecDepth 100000 in
theorem m_Lw_80 : InT (.methodLink "NurseryPlacesLaw" 80 (hY h_N_room)) := InT.of 355 rfl rfl
set_option maxRecDepth 100000 in
theorem m_Lw_83 : InT (.methodLink "NurseryPlacesLaw" 83 (hY h_N_moreBy)) := InT.of 546 rfl rfl
set_option maxRecDepth 100000 in
theorem m_Lw_86 : InT (.methodLink "NurseryPlacesLaw" 86 (hY h_N_carer)) := InT.of 363 rfl rfl
set_option maxRecDepth 100000 in
theorem m_Lw_89 : InT (.methodLink "NurseryPlacesLaw" 89 (hY h_Lw_acts)) := InT.of 616 rfl rfl
set_option maxRecDepth 100000 in
theorem m_Lw_93 : InT (.methodLink "NurseryPlacesLaw" 93 (hY h_Lw_rooms)) := InT.of 581 rfl rfl
set_option maxRecDepth 100000 in
theorem m_Lw_97 : InT (.methodLink "NurseryPlacesLaw" 97 (hY h_Lw_children)) := InT.of 605 rfl rfl
set_option maxRecDepth 100000 in
theorem m_Lw_100 : InT (.methodLink "NurseryPlacesLaw" 100 (hY h_N_save)) := InT.of 565 rfl rfl
set_option maxRecDepth 100000 in
theorem m_Lw_103 : InT (.methodLink "NurseryPlacesLaw" 103 (hY h_N_undo)) := InT.of 557 rfl rfl
set_option maxRecDepth 100000 in
theorem m_Lw_106 : InT (.methodLink "NurseryPlacesLaw" 106 (hY h_N_restore)) := InT.of 572 rfl rfl
theorem ki_0 : (0 : Int32) = Int32.ofInt (0) := by decide
theorem ki_1 : (1 : Int32) = Int32.ofInt (1) := by decide
theorem kb_m6 : (-6 : Int32) = (Int8.ofInt (-6)).toInt32 := by decide
theorem kb_6 : (6 : Int32) = (Int8.ofInt (6)).toInt32 := by decide
theorem kb_7 : (7 : Int32) = (Int8.ofInt (7)).toInt32 := by decide
theorem ki_2 : (2 : Int32) = Int32.ofInt (2) := by decide
theorem ki_4 : (4 : Int32) = Int32.ofInt (4) := by decide
theorem kb_8 : (8 : Int32) = (Int8.ofInt (8)).toInt32 := by decide
theorem kb_16 : (16 : Int32) = (Int8.ofInt (16)).toInt32 := by decide
theorem kb_63 : (63 : Int32) = (Int8.ofInt (63)).toInt32 := by decide
theorem ks_1403 : (1403 : Int32) = (Int16.ofInt (1403)).toInt32 := by decide
theorem kb_24 : (24 : Int32) = (Int8.ofInt (24)).toInt32 := by decide
theorem kb_12 : (12 : Int32) = (Int8.ofInt (12)).toInt32 := by decide
theorem kb_m4 : (-4 : Int32) = (Int8.ofInt (-4)).toInt32 := by decide
theorem kb_100 : (100 : Int32) = (Int8.ofInt (100)).toInt32 := by decide
theorem ki_3 : (3 : Int32) = Int32.ofInt (3) := by decide
theorem kb_14 : (14 : Int32) = (Int8.ofInt (14)).toInt32 := by decide
theorem kb_18 : (18 : Int32) = (Int8.ofInt (18)).toInt32 := by decide
theorem kb_m2 : (-2 : Int32) = (Int8.ofInt (-2)).toInt32 := by decide
theorem kb_9 : (9 : Int32) = (Int8.ofInt (9)).toInt32 := by decide
theorem kb_31 : (31 : Int32) = (Int8.ofInt (31)).toInt32 := by decide
theorem kb_10 : (10 : Int32) = (Int8.ofInt (10)).toInt32 := by decide
theorem ki_m1 : (-1 : Int32) = Int32.ofInt (-1) := by decide
theorem kb_71 : (71 : Int32) = (Int8.ofInt (71)).toInt32 := by decide
theorem kb_72 : (72 : Int32) = (Int8.ofInt (72)).toInt32 := by decide
theorem kb_40 : (40 : Int32) = (Int8.ofInt (40)).toInt32 := by decide
theorem ki_5 : (5 : Int32) = Int32.ofInt (5) := by decide
theorem kb_m5 : (-5 : Int32) = (Int8.ofInt (-5)).toInt32 := by decide
theorem kb_19 : (19 : Int32) = (Int8.ofInt (19)).toInt32 := by decide
theorem kb_20 : (20 : Int32) = (Int8.ofInt (20)).toInt32 := by decide
theorem kb_29 : (29 : Int32) = (Int8.ofInt (29)).toInt32 := by decide
theorem kb_30 : (30 : Int32) = (Int8.ofInt (30)).toInt32 := by decide
theorem kb_39 : (39 : Int32) = (Int8.ofInt (39)).toInt32 := by decide
theorem kb_15 : (15 : Int32) = (Int8.ofInt (15)).toInt32 := by decide
theorem ks_1023 : (1023 : Int32) = (Int16.ofInt (1023)).toInt32 := by decide
theorem kb_11 : (11 : Int32) = (Int8.ofInt (11)).toInt32 := by decide
theorem kb_52 : (52 : Int32) = (Int8.ofInt (52)).toInt32 := by decide
