section
-- ===== PART A: goes FIRST, ahead of the names: the tables' words, and 'selects' of the private methods out of them =====
/-- a private method of a class that the tables say can be made, by its rows of tables_1 -/
def lw_okq (q : MethodName × Nat) : Prop := (q.1.cls ≠ "java/lang/invoke/MethodHandle" ∧ q.1.cls ≠ "java/lang/invoke/VarHandle") ∧ Cond.instantiable q.1.cls q.2 ∈ tables_1 ∧ Cond.privateMethod q.1 ∈ tables_1 ∧ Cond.instanceMethod q.1 ∈ tables_1
theorem lw_p0 : lw_okq (⟨"NurseryPlaces$Pad", "readOrder", "()Z"⟩, 6) := ⟨⟨by decide +kernel, by decide +kernel⟩, List.mem_of_getElem? (i := 276) (by decide +kernel), List.mem_of_getElem? (i := 720) (by decide +kernel), List.mem_of_getElem? (i := 721) (by decide +kernel)⟩
theorem lw_p1 : lw_okq (⟨"NurseryPlaces$Pad", "readPart", "(C)Z"⟩, 6) := ⟨⟨by decide +kernel, by decide +kernel⟩, List.mem_of_getElem? (i := 276) (by decide +kernel), List.mem_of_getElem? (i := 780) (by decide +kernel), List.mem_of_getElem? (i := 781) (by decide +kernel)⟩
theorem lw_p2 : lw_okq (⟨"NurseryPlaces$Pad", "readNumber", "()Z"⟩, 6) := ⟨⟨by decide +kernel, by decide +kernel⟩, List.mem_of_getElem? (i := 276) (by decide +kernel), List.mem_of_getElem? (i := 784) (by decide +kernel), List.mem_of_getElem? (i := 785) (by decide +kernel)⟩
theorem lw_p3 : lw_okq (⟨"NurseryPlaces$Pad", "isAtDigit", "()Z"⟩, 6) := ⟨⟨by decide +kernel, by decide +kernel⟩, List.mem_of_getElem? (i := 276) (by decide +kernel), List.mem_of_getElem? (i := 788) (by decide +kernel), List.mem_of_getElem? (i := 789) (by decide +kernel)⟩
theorem lw_p4 : lw_okq (⟨"NurseryPlaces$Pad", "keepNumber", "(I)V"⟩, 6) := ⟨⟨by decide +kernel, by decide +kernel⟩, List.mem_of_getElem? (i := 276) (by decide +kernel), List.mem_of_getElem? (i := 792) (by decide +kernel), List.mem_of_getElem? (i := 793) (by decide +kernel)⟩
theorem lw_p5 : lw_okq (⟨"NurseryPlaces$Pad", "readDigit", "()Z"⟩, 6) := ⟨⟨by decide +kernel, by decide +kernel⟩, List.mem_of_getElem? (i := 276) (by decide +kernel), List.mem_of_getElem? (i := 796) (by decide +kernel), List.mem_of_getElem? (i := 797) (by decide +kernel)⟩
theorem lw_p6 : lw_okq (⟨"NurseryPlaces$Pad", "readSign", "(C)Z"⟩, 6) := ⟨⟨by decide +kernel, by decide +kernel⟩, List.mem_of_getElem? (i := 276) (by decide +kernel), List.mem_of_getElem? (i := 800) (by decide +kernel), List.mem_of_getElem? (i := 801) (by decide +kernel)⟩
theorem lw_p7 : lw_okq (⟨"NurseryPlaces", "carryOutOrder", "()I"⟩, 6) := ⟨⟨by decide +kernel, by decide +kernel⟩, List.mem_of_getElem? (i := 20) (by decide +kernel), List.mem_of_getElem? (i := 814) (by decide +kernel), List.mem_of_getElem? (i := 815) (by decide +kernel)⟩
theorem lw_p8 : lw_okq (⟨"NurseryPlacesModel", "record", "()V"⟩, 15) := ⟨⟨by decide +kernel, by decide +kernel⟩, List.mem_of_getElem? (i := 837) (by decide +kernel), List.mem_of_getElem? (i := 896) (by decide +kernel), List.mem_of_getElem? (i := 897) (by decide +kernel)⟩
theorem lw_p9 : lw_okq (⟨"NurseryPlacesModel", "isRoom", "(I)Z"⟩, 15) := ⟨⟨by decide +kernel, by decide +kernel⟩, List.mem_of_getElem? (i := 837) (by decide +kernel), List.mem_of_getElem? (i := 908) (by decide +kernel), List.mem_of_getElem? (i := 909) (by decide +kernel)⟩
theorem lw_p10 : lw_okq (⟨"NurseryPlacesModel", "hires", "(IIII)V"⟩, 15) := ⟨⟨by decide +kernel, by decide +kernel⟩, List.mem_of_getElem? (i := 837) (by decide +kernel), List.mem_of_getElem? (i := 915) (by decide +kernel), List.mem_of_getElem? (i := 916) (by decide +kernel)⟩
theorem lw_p11 : lw_okq (⟨"NurseryPlacesModel", "put", "(III)V"⟩, 15) := ⟨⟨by decide +kernel, by decide +kernel⟩, List.mem_of_getElem? (i := 837) (by decide +kernel), List.mem_of_getElem? (i := 923) (by decide +kernel), List.mem_of_getElem? (i := 924) (by decide +kernel)⟩
theorem lw_p12 : lw_okq (⟨"NurseryPlacesModel", "isChild", "(I)Z"⟩, 15) := ⟨⟨by decide +kernel, by decide +kernel⟩, List.mem_of_getElem? (i := 837) (by decide +kernel), List.mem_of_getElem? (i := 931) (by decide +kernel), List.mem_of_getElem? (i := 932) (by decide +kernel)⟩
theorem lw_p13 : lw_okq (⟨"NurseryPlacesModel", "of", "(II)I"⟩, 15) := ⟨⟨by decide +kernel, by decide +kernel⟩, List.mem_of_getElem? (i := 837) (by decide +kernel), List.mem_of_getElem? (i := 935) (by decide +kernel), List.mem_of_getElem? (i := 936) (by decide +kernel)⟩
theorem lw_p14 : lw_okq (⟨"NurseryPlacesModel", "becomes", "(II)V"⟩, 15) := ⟨⟨by decide +kernel, by decide +kernel⟩, List.mem_of_getElem? (i := 837) (by decide +kernel), List.mem_of_getElem? (i := 939) (by decide +kernel), List.mem_of_getElem? (i := 940) (by decide +kernel)⟩
theorem lw_p15 : lw_okq (⟨"NurseryPlacesModel", "inState", "(I)I"⟩, 15) := ⟨⟨by decide +kernel, by decide +kernel⟩, List.mem_of_getElem? (i := 837) (by decide +kernel), List.mem_of_getElem? (i := 943) (by decide +kernel), List.mem_of_getElem? (i := 944) (by decide +kernel)⟩
def lw_privs_1 : List (MethodName × Nat) := [(⟨"NurseryPlaces$Pad", "readOrder", "()Z"⟩, 6), (⟨"NurseryPlaces$Pad", "readPart", "(C)Z"⟩, 6), (⟨"NurseryPlaces$Pad", "readNumber", "()Z"⟩, 6), (⟨"NurseryPlaces$Pad", "isAtDigit", "()Z"⟩, 6), (⟨"NurseryPlaces$Pad", "keepNumber", "(I)V"⟩, 6), (⟨"NurseryPlaces$Pad", "readDigit", "()Z"⟩, 6), (⟨"NurseryPlaces$Pad", "readSign", "(C)Z"⟩, 6), (⟨"NurseryPlaces", "carryOutOrder", "()I"⟩, 6), (⟨"NurseryPlacesModel", "record", "()V"⟩, 15), (⟨"NurseryPlacesModel", "isRoom", "(I)Z"⟩, 15), (⟨"NurseryPlacesModel", "hires", "(IIII)V"⟩, 15), (⟨"NurseryPlacesModel", "put", "(III)V"⟩, 15), (⟨"NurseryPlacesModel", "isChild", "(I)Z"⟩, 15), (⟨"NurseryPlacesModel", "of", "(II)I"⟩, 15), (⟨"NurseryPlacesModel", "becomes", "(II)V"⟩, 15), (⟨"NurseryPlacesModel", "inState", "(I)I"⟩, 15)]
theorem lw_r1 : ∀ q ∈ lw_privs_1, lw_okq q := List.forall_mem_cons.mpr ⟨lw_p0, List.forall_mem_cons.mpr ⟨lw_p1, List.forall_mem_cons.mpr ⟨lw_p2, List.forall_mem_cons.mpr ⟨lw_p3, List.forall_mem_cons.mpr ⟨lw_p4, List.forall_mem_cons.mpr ⟨lw_p5, List.forall_mem_cons.mpr ⟨lw_p6, List.forall_mem_cons.mpr ⟨lw_p7, List.forall_mem_cons.mpr ⟨lw_p8, List.forall_mem_cons.mpr ⟨lw_p9, List.forall_mem_cons.mpr ⟨lw_p10, List.forall_mem_cons.mpr ⟨lw_p11, List.forall_mem_cons.mpr ⟨lw_p12, List.forall_mem_cons.mpr ⟨lw_p13, List.forall_mem_cons.mpr ⟨lw_p14, List.forall_mem_cons.mpr ⟨lw_p15, fun _ h => absurd h List.not_mem_nil⟩⟩⟩⟩⟩⟩⟩⟩⟩⟩⟩⟩⟩⟩⟩⟩
theorem lw_p16 : lw_okq (⟨"NurseryPlacesModel", "admits", "()I"⟩, 15) := ⟨⟨by decide +kernel, by decide +kernel⟩, List.mem_of_getElem? (i := 837) (by decide +kernel), List.mem_of_getElem? (i := 954) (by decide +kernel), List.mem_of_getElem? (i := 955) (by decide +kernel)⟩
theorem lw_p17 : lw_okq (⟨"NurseryPlacesModel", "firstOne", "()I"⟩, 15) := ⟨⟨by decide +kernel, by decide +kernel⟩, List.mem_of_getElem? (i := 837) (by decide +kernel), List.mem_of_getElem? (i := 958) (by decide +kernel), List.mem_of_getElem? (i := 959) (by decide +kernel)⟩
theorem lw_p18 : lw_okq (⟨"NurseryPlacesModel", "gets", "(I)I"⟩, 15) := ⟨⟨by decide +kernel, by decide +kernel⟩, List.mem_of_getElem? (i := 837) (by decide +kernel), List.mem_of_getElem? (i := 962) (by decide +kernel), List.mem_of_getElem? (i := 963) (by decide +kernel)⟩
theorem lw_p19 : lw_okq (⟨"NurseryPlacesModel", "roomOf", "(I)I"⟩, 15) := ⟨⟨by decide +kernel, by decide +kernel⟩, List.mem_of_getElem? (i := 837) (by decide +kernel), List.mem_of_getElem? (i := 966) (by decide +kernel), List.mem_of_getElem? (i := 967) (by decide +kernel)⟩
theorem lw_p20 : lw_okq (⟨"NurseryPlacesModel", "freeOf", "(II)I"⟩, 15) := ⟨⟨by decide +kernel, by decide +kernel⟩, List.mem_of_getElem? (i := 837) (by decide +kernel), List.mem_of_getElem? (i := 970) (by decide +kernel), List.mem_of_getElem? (i := 971) (by decide +kernel)⟩
theorem lw_p21 : lw_okq (⟨"NurseryPlacesModel", "isFree", "(II)Z"⟩, 15) := ⟨⟨by decide +kernel, by decide +kernel⟩, List.mem_of_getElem? (i := 837) (by decide +kernel), List.mem_of_getElem? (i := 977) (by decide +kernel), List.mem_of_getElem? (i := 978) (by decide +kernel)⟩
theorem lw_p22 : lw_okq (⟨"NurseryPlacesModel", "taken", "(II)I"⟩, 15) := ⟨⟨by decide +kernel, by decide +kernel⟩, List.mem_of_getElem? (i := 837) (by decide +kernel), List.mem_of_getElem? (i := 981) (by decide +kernel), List.mem_of_getElem? (i := 982) (by decide +kernel)⟩
theorem lw_p23 : lw_okq (⟨"NurseryPlacesModel", "isIn", "(II)Z"⟩, 15) := ⟨⟨by decide +kernel, by decide +kernel⟩, List.mem_of_getElem? (i := 837) (by decide +kernel), List.mem_of_getElem? (i := 985) (by decide +kernel), List.mem_of_getElem? (i := 986) (by decide +kernel)⟩
theorem lw_p24 : lw_okq (⟨"NurseryPlacesModel", "places", "(IIZ)I"⟩, 15) := ⟨⟨by decide +kernel, by decide +kernel⟩, List.mem_of_getElem? (i := 837) (by decide +kernel), List.mem_of_getElem? (i := 989) (by decide +kernel), List.mem_of_getElem? (i := 990) (by decide +kernel)⟩
theorem lw_p25 : lw_okq (⟨"NurseryPlacesModel", "carersAt", "(IIIZ)I"⟩, 15) := ⟨⟨by decide +kernel, by decide +kernel⟩, List.mem_of_getElem? (i := 837) (by decide +kernel), List.mem_of_getElem? (i := 993) (by decide +kernel), List.mem_of_getElem? (i := 994) (by decide +kernel)⟩
theorem lw_p26 : lw_okq (⟨"NurseryPlacesModel", "hasSibling", "(I)Z"⟩, 15) := ⟨⟨by decide +kernel, by decide +kernel⟩, List.mem_of_getElem? (i := 837) (by decide +kernel), List.mem_of_getElem? (i := 997) (by decide +kernel), List.mem_of_getElem? (i := 998) (by decide +kernel)⟩
theorem lw_p27 : lw_okq (⟨"NurseryPlacesModel", "guests", "(II)I"⟩, 15) := ⟨⟨by decide +kernel, by decide +kernel⟩, List.mem_of_getElem? (i := 837) (by decide +kernel), List.mem_of_getElem? (i := 1008) (by decide +kernel), List.mem_of_getElem? (i := 1009) (by decide +kernel)⟩
theorem lw_p28 : lw_okq (⟨"NurseryPlacesModel", "plannedMany", "()I"⟩, 15) := ⟨⟨by decide +kernel, by decide +kernel⟩, List.mem_of_getElem? (i := 837) (by decide +kernel), List.mem_of_getElem? (i := 1012) (by decide +kernel), List.mem_of_getElem? (i := 1013) (by decide +kernel)⟩
theorem lw_p29 : lw_okq (⟨"NurseryPlacesModel", "canSwap", "(IIII)Z"⟩, 15) := ⟨⟨by decide +kernel, by decide +kernel⟩, List.mem_of_getElem? (i := 837) (by decide +kernel), List.mem_of_getElem? (i := 1020) (by decide +kernel), List.mem_of_getElem? (i := 1021) (by decide +kernel)⟩
theorem lw_p30 : lw_okq (⟨"NurseryPlacesModel", "isCarer", "(I)Z"⟩, 15) := ⟨⟨by decide +kernel, by decide +kernel⟩, List.mem_of_getElem? (i := 837) (by decide +kernel), List.mem_of_getElem? (i := 1032) (by decide +kernel), List.mem_of_getElem? (i := 1033) (by decide +kernel)⟩
theorem lw_p31 : lw_okq (⟨"NurseryPlacesModel", "oneWeek", "()V"⟩, 15) := ⟨⟨by decide +kernel, by decide +kernel⟩, List.mem_of_getElem? (i := 837) (by decide +kernel), List.mem_of_getElem? (i := 1040) (by decide +kernel), List.mem_of_getElem? (i := 1041) (by decide +kernel)⟩
def lw_privs_2 : List (MethodName × Nat) := [(⟨"NurseryPlacesModel", "admits", "()I"⟩, 15), (⟨"NurseryPlacesModel", "firstOne", "()I"⟩, 15), (⟨"NurseryPlacesModel", "gets", "(I)I"⟩, 15), (⟨"NurseryPlacesModel", "roomOf", "(I)I"⟩, 15), (⟨"NurseryPlacesModel", "freeOf", "(II)I"⟩, 15), (⟨"NurseryPlacesModel", "isFree", "(II)Z"⟩, 15), (⟨"NurseryPlacesModel", "taken", "(II)I"⟩, 15), (⟨"NurseryPlacesModel", "isIn", "(II)Z"⟩, 15), (⟨"NurseryPlacesModel", "places", "(IIZ)I"⟩, 15), (⟨"NurseryPlacesModel", "carersAt", "(IIIZ)I"⟩, 15), (⟨"NurseryPlacesModel", "hasSibling", "(I)Z"⟩, 15), (⟨"NurseryPlacesModel", "guests", "(II)I"⟩, 15), (⟨"NurseryPlacesModel", "plannedMany", "()I"⟩, 15), (⟨"NurseryPlacesModel", "canSwap", "(IIII)Z"⟩, 15), (⟨"NurseryPlacesModel", "isCarer", "(I)Z"⟩, 15), (⟨"NurseryPlacesModel", "oneWeek", "()V"⟩, 15)]
theorem lw_r2 : ∀ q ∈ lw_privs_2, lw_okq q := List.forall_mem_cons.mpr ⟨lw_p16, List.forall_mem_cons.mpr ⟨lw_p17, List.forall_mem_cons.mpr ⟨lw_p18, List.forall_mem_cons.mpr ⟨lw_p19, List.forall_mem_cons.mpr ⟨lw_p20, List.forall_mem_cons.mpr ⟨lw_p21, List.forall_mem_cons.mpr ⟨lw_p22, List.forall_mem_cons.mpr ⟨lw_p23, List.forall_mem_cons.mpr ⟨lw_p24, List.forall_mem_cons.mpr ⟨lw_p25, List.forall_mem_cons.mpr ⟨lw_p26, List.forall_mem_cons.mpr ⟨lw_p27, List.forall_mem_cons.mpr ⟨lw_p28, List.forall_mem_cons.mpr ⟨lw_p29, List.forall_mem_cons.mpr ⟨lw_p30, List.forall_mem_cons.mpr ⟨lw_p31, fun _ h => absurd h List.not_mem_nil⟩⟩⟩⟩⟩⟩⟩⟩⟩⟩⟩⟩⟩⟩⟩⟩
theorem lw_p32 : lw_okq (⟨"NurseryPlacesModel", "comeAll", "()V"⟩, 15) := ⟨⟨by decide +kernel, by decide +kernel⟩, List.mem_of_getElem? (i := 837) (by decide +kernel), List.mem_of_getElem? (i := 1044) (by decide +kernel), List.mem_of_getElem? (i := 1045) (by decide +kernel)⟩
theorem lw_p33 : lw_okq (⟨"NurseryPlacesModel", "come", "(II)V"⟩, 15) := ⟨⟨by decide +kernel, by decide +kernel⟩, List.mem_of_getElem? (i := 837) (by decide +kernel), List.mem_of_getElem? (i := 1048) (by decide +kernel), List.mem_of_getElem? (i := 1049) (by decide +kernel)⟩
theorem lw_p34 : lw_okq (⟨"NurseryPlacesModel", "isVisiting", "(II)Z"⟩, 15) := ⟨⟨by decide +kernel, by decide +kernel⟩, List.mem_of_getElem? (i := 837) (by decide +kernel), List.mem_of_getElem? (i := 1052) (by decide +kernel), List.mem_of_getElem? (i := 1053) (by decide +kernel)⟩
theorem lw_p35 : lw_okq (⟨"NurseryPlacesModel", "pays", "(I)V"⟩, 15) := ⟨⟨by decide +kernel, by decide +kernel⟩, List.mem_of_getElem? (i := 837) (by decide +kernel), List.mem_of_getElem? (i := 1056) (by decide +kernel), List.mem_of_getElem? (i := 1057) (by decide +kernel)⟩
theorem lw_p36 : lw_okq (⟨"NurseryPlacesModel", "priceFor", "(I)I"⟩, 15) := ⟨⟨by decide +kernel, by decide +kernel⟩, List.mem_of_getElem? (i := 837) (by decide +kernel), List.mem_of_getElem? (i := 1060) (by decide +kernel), List.mem_of_getElem? (i := 1061) (by decide +kernel)⟩
theorem lw_p37 : lw_okq (⟨"NurseryPlacesModel", "settles", "(I)V"⟩, 15) := ⟨⟨by decide +kernel, by decide +kernel⟩, List.mem_of_getElem? (i := 837) (by decide +kernel), List.mem_of_getElem? (i := 1064) (by decide +kernel), List.mem_of_getElem? (i := 1065) (by decide +kernel)⟩
theorem lw_p38 : lw_okq (⟨"NurseryPlacesModel", "moves", "(I)V"⟩, 15) := ⟨⟨by decide +kernel, by decide +kernel⟩, List.mem_of_getElem? (i := 837) (by decide +kernel), List.mem_of_getElem? (i := 1068) (by decide +kernel), List.mem_of_getElem? (i := 1069) (by decide +kernel)⟩
theorem lw_p39 : lw_okq (⟨"NurseryPlacesModel", "settledSet", "()I"⟩, 15) := ⟨⟨by decide +kernel, by decide +kernel⟩, List.mem_of_getElem? (i := 837) (by decide +kernel), List.mem_of_getElem? (i := 1088) (by decide +kernel), List.mem_of_getElem? (i := 1089) (by decide +kernel)⟩
theorem lw_p40 : lw_okq (⟨"NurseryPlacesModel", "keep", "()V"⟩, 15) := ⟨⟨by decide +kernel, by decide +kernel⟩, List.mem_of_getElem? (i := 837) (by decide +kernel), List.mem_of_getElem? (i := 1104) (by decide +kernel), List.mem_of_getElem? (i := 1105) (by decide +kernel)⟩
theorem lw_p41 : lw_okq (⟨"NurseryPlacesModel", "bringBack", "()V"⟩, 15) := ⟨⟨by decide +kernel, by decide +kernel⟩, List.mem_of_getElem? (i := 837) (by decide +kernel), List.mem_of_getElem? (i := 1108) (by decide +kernel), List.mem_of_getElem? (i := 1109) (by decide +kernel)⟩
theorem lw_p42 : lw_okq (⟨"NurseryPlacesModel", "placesWith", "(IIII)I"⟩, 15) := ⟨⟨by decide +kernel, by decide +kernel⟩, List.mem_of_getElem? (i := 837) (by decide +kernel), List.mem_of_getElem? (i := 1124) (by decide +kernel), List.mem_of_getElem? (i := 1125) (by decide +kernel)⟩
theorem lw_p43 : lw_okq (⟨"NurseryPlacesModel", "allPlaces", "(I)I"⟩, 15) := ⟨⟨by decide +kernel, by decide +kernel⟩, List.mem_of_getElem? (i := 837) (by decide +kernel), List.mem_of_getElem? (i := 1128) (by decide +kernel), List.mem_of_getElem? (i := 1129) (by decide +kernel)⟩
theorem lw_p44 : lw_okq (⟨"NurseryPlacesModel", "isGood", "()Z"⟩, 15) := ⟨⟨by decide +kernel, by decide +kernel⟩, List.mem_of_getElem? (i := 837) (by decide +kernel), List.mem_of_getElem? (i := 1149) (by decide +kernel), List.mem_of_getElem? (i := 1150) (by decide +kernel)⟩
theorem lw_p45 : lw_okq (⟨"NurseryPlacesModel", "readOrder", "()Z"⟩, 15) := ⟨⟨by decide +kernel, by decide +kernel⟩, List.mem_of_getElem? (i := 837) (by decide +kernel), List.mem_of_getElem? (i := 1153) (by decide +kernel), List.mem_of_getElem? (i := 1154) (by decide +kernel)⟩
theorem lw_p46 : lw_okq (⟨"NurseryPlacesModel", "number", "(I)Z"⟩, 15) := ⟨⟨by decide +kernel, by decide +kernel⟩, List.mem_of_getElem? (i := 837) (by decide +kernel), List.mem_of_getElem? (i := 1157) (by decide +kernel), List.mem_of_getElem? (i := 1158) (by decide +kernel)⟩
theorem lw_p47 : lw_okq (⟨"NurseryPlacesModel", "sign", "(I)Z"⟩, 15) := ⟨⟨by decide +kernel, by decide +kernel⟩, List.mem_of_getElem? (i := 837) (by decide +kernel), List.mem_of_getElem? (i := 1161) (by decide +kernel), List.mem_of_getElem? (i := 1162) (by decide +kernel)⟩
def lw_privs_3 : List (MethodName × Nat) := [(⟨"NurseryPlacesModel", "comeAll", "()V"⟩, 15), (⟨"NurseryPlacesModel", "come", "(II)V"⟩, 15), (⟨"NurseryPlacesModel", "isVisiting", "(II)Z"⟩, 15), (⟨"NurseryPlacesModel", "pays", "(I)V"⟩, 15), (⟨"NurseryPlacesModel", "priceFor", "(I)I"⟩, 15), (⟨"NurseryPlacesModel", "settles", "(I)V"⟩, 15), (⟨"NurseryPlacesModel", "moves", "(I)V"⟩, 15), (⟨"NurseryPlacesModel", "settledSet", "()I"⟩, 15), (⟨"NurseryPlacesModel", "keep", "()V"⟩, 15), (⟨"NurseryPlacesModel", "bringBack", "()V"⟩, 15), (⟨"NurseryPlacesModel", "placesWith", "(IIII)I"⟩, 15), (⟨"NurseryPlacesModel", "allPlaces", "(I)I"⟩, 15), (⟨"NurseryPlacesModel", "isGood", "()Z"⟩, 15), (⟨"NurseryPlacesModel", "readOrder", "()Z"⟩, 15), (⟨"NurseryPlacesModel", "number", "(I)Z"⟩, 15), (⟨"NurseryPlacesModel", "sign", "(I)Z"⟩, 15)]
theorem lw_r3 : ∀ q ∈ lw_privs_3, lw_okq q := List.forall_mem_cons.mpr ⟨lw_p32, List.forall_mem_cons.mpr ⟨lw_p33, List.forall_mem_cons.mpr ⟨lw_p34, List.forall_mem_cons.mpr ⟨lw_p35, List.forall_mem_cons.mpr ⟨lw_p36, List.forall_mem_cons.mpr ⟨lw_p37, List.forall_mem_cons.mpr ⟨lw_p38, List.forall_mem_cons.mpr ⟨lw_p39, List.forall_mem_cons.mpr ⟨lw_p40, List.forall_mem_cons.mpr ⟨lw_p41, List.forall_mem_cons.mpr ⟨lw_p42, List.forall_mem_cons.mpr ⟨lw_p43, List.forall_mem_cons.mpr ⟨lw_p44, List.forall_mem_cons.mpr ⟨lw_p45, List.forall_mem_cons.mpr ⟨lw_p46, List.forall_mem_cons.mpr ⟨lw_p47, fun _ h => absurd h List.not_mem_nil⟩⟩⟩⟩⟩⟩⟩⟩⟩⟩⟩⟩⟩⟩⟩⟩
theorem lw_p48 : lw_okq (⟨"NurseryPlacesModel", "childAt", "(I)Z"⟩, 15) := ⟨⟨by decide +kernel, by decide +kernel⟩, List.mem_of_getElem? (i := 837) (by decide +kernel), List.mem_of_getElem? (i := 1165) (by decide +kernel), List.mem_of_getElem? (i := 1166) (by decide +kernel)⟩
theorem lw_p49 : lw_okq (⟨"NurseryPlacesModel", "digit", "(I)Z"⟩, 15) := ⟨⟨by decide +kernel, by decide +kernel⟩, List.mem_of_getElem? (i := 837) (by decide +kernel), List.mem_of_getElem? (i := 1169) (by decide +kernel), List.mem_of_getElem? (i := 1170) (by decide +kernel)⟩
theorem lw_p50 : lw_okq (⟨"NurseryPlacesModel", "doOrder", "()I"⟩, 15) := ⟨⟨by decide +kernel, by decide +kernel⟩, List.mem_of_getElem? (i := 837) (by decide +kernel), List.mem_of_getElem? (i := 1177) (by decide +kernel), List.mem_of_getElem? (i := 1178) (by decide +kernel)⟩
def lw_privs_4 : List (MethodName × Nat) := [(⟨"NurseryPlacesModel", "childAt", "(I)Z"⟩, 15), (⟨"NurseryPlacesModel", "digit", "(I)Z"⟩, 15), (⟨"NurseryPlacesModel", "doOrder", "()I"⟩, 15)]
theorem lw_r4 : ∀ q ∈ lw_privs_4, lw_okq q := List.forall_mem_cons.mpr ⟨lw_p48, List.forall_mem_cons.mpr ⟨lw_p49, List.forall_mem_cons.mpr ⟨lw_p50, fun _ h => absurd h List.not_mem_nil⟩⟩⟩
def lw_privs : List (MethodName × Nat) := lw_privs_1 ++ (lw_privs_2 ++ (lw_privs_3 ++ (lw_privs_4)))
def lw_tbl : List Cond := k2_sels lw_privs ++ tables_1
theorem lw_privs_ok : ∀ q ∈ lw_privs, lw_okq q := by
  show ∀ q ∈ lw_privs_1 ++ (lw_privs_2 ++ (lw_privs_3 ++ (lw_privs_4))), lw_okq q
  exact List.forall_mem_append.mpr ⟨lw_r1, List.forall_mem_append.mpr ⟨lw_r2, List.forall_mem_append.mpr ⟨lw_r3, lw_r4⟩⟩⟩
end
section
/-! THE SMALL MACHINE: values, objects by number, memory. Every object of the class and of the reference is known by (kind, which, place); its address follows from the order in which the constructors make them. -/
abbrev Rf : Type := Nat × Nat × Nat
abbrev Vl : Type := Int32 ⊕ (Int64 ⊕ Rf)
abbrev Mm : Type := Rf → Nat → Int32
abbrev vI (x : Int32) : Vl := .inl x
abbrev vJ (x : Int64) : Vl := .inr (.inl x)
abbrev vO (t k i : Nat) : Vl := .inr (.inr (t, k, i))
/-- launch, classes and slots, first address, array classes, addresses of what lies outside, a static that may be null, the script: its address, length, values -/
abbrev Wg : Type := Launch × va_G × Nat × (Nat → ClassId) × (Nat → Nat) × Option Nat × (Nat × Nat × (Nat → Int32))
abbrev gL (g : Wg) : Launch := g.1
abbrev gD (g : Wg) : va_G := g.2.1
abbrev gB (g : Wg) : Nat := g.2.2.1
abbrev gC (g : Wg) : Nat → ClassId := g.2.2.2.1
abbrev gT (g : Wg) : Nat → Nat := g.2.2.2.2.1
abbrev gF (g : Wg) : Option Nat := g.2.2.2.2.2.1
abbrev gX (g : Wg) : Nat × Nat × (Nat → Int32) := g.2.2.2.2.2.2
def gA (g : Wg) : Nat → Prop := fun q => gB g ≤ q
def sbO (k : Nat) : Nat := 47 * k + (if k < 2 then 1 else if k < 9 then 3 else 4)
/-- the order of making -/
def ordO (t k i : Nat) : Nat := match t with
  | 2 => sbO k
  | 3 => sbO k + 1
  | 4 => sbO k + 2
  | 5 => sbO k + 3
  | 6 => sbO k + 4
  | 7 => sbO k + 5 + i
  | 8 => sbO k + 10 + i
  | 9 => sbO k + 23 + i
  | 10 => 95
  | 11 => 96
  | 12 => 426
  | 13 => 521
  | 14 => 522
  | 15 => 523
  | 16 => 524
  | 17 => 525
  | 18 => match k with
    | 0 => 526
    | 1 => 527
    | 2 => 528
    | 3 => 529
    | 4 => 531
    | 5 => 532
    | 6 => 533
    | 7 => 534
    | _ => 535
  | 19 => 530
  | _ => 0
/-- which objects there are -/
def okO (t k i : Nat) : Bool := match t with
  | 1 => Nat.beq k 0 && Nat.beq i 0
  | 2 => Nat.blt k 11 && Nat.beq i 0
  | 3 => Nat.blt k 11 && Nat.beq i 0
  | 4 => Nat.blt k 11 && Nat.beq i 0
  | 5 => Nat.blt k 11 && Nat.beq i 0
  | 6 => Nat.blt k 11 && Nat.beq i 0
  | 7 => Nat.blt k 11 && Nat.blt i 5
  | 8 => Nat.blt k 11 && Nat.blt i 13
  | 9 => Nat.blt k 11 && Nat.blt i 24
  | 10 => Nat.beq k 0 && Nat.beq i 0
  | 11 => Nat.beq k 0 && Nat.beq i 0
  | 12 => Nat.beq k 0 && Nat.beq i 0
  | 13 => Nat.beq k 0 && Nat.beq i 0
  | 14 => Nat.beq k 0 && Nat.beq i 0
  | 15 => Nat.beq k 0 && Nat.beq i 0
  | 16 => Nat.beq k 0 && Nat.beq i 0
  | 17 => Nat.beq k 0 && Nat.beq i 0
  | 18 => Nat.blt k 9 && Nat.beq i 0
  | 19 => Nat.beq k 0 && Nat.beq i 0
  | _ => false
def okR (t k i : Nat) : Bool := match t with
  | 0 => true
  | 20 => true
  | 21 => Nat.blt k 5
  | 22 => Nat.blt k 2
  | 23 => Nat.blt k 5
  | 25 => true
  | _ => okO t k i
def okV (v : Vl) : Prop := match v with
  | .inr (.inr (t, k, i)) => okR t k i = true
  | _ => True
def stR (k : Nat) : List Rf := (2, k, 0) :: (3, k, 0) :: (4, k, 0) :: (5, k, 0) :: (6, k, 0) :: ((List.range 5).map (fun i => (7, k, i)) ++ ((List.range 13).map (fun i => (8, k, i)) ++ (List.range 24).map (fun i => (9, k, i))))
def allR : List Rf := (1, 0, 0) :: (stR 0 ++ (stR 1 ++ ((10, 0, 0) :: (11, 0, 0) :: (stR 2 ++ (stR 3 ++ (stR 4 ++ (stR 5 ++ (stR 6 ++ (stR 7 ++ (stR 8 ++ ((12, 0, 0) :: (stR 9 ++ (stR 10 ++ [(13, 0, 0), (14, 0, 0), (15, 0, 0), (16, 0, 0), (17, 0, 0), (18, 0, 0), (18, 1, 0), (18, 2, 0), (18, 3, 0), (19, 0, 0), (18, 4, 0), (18, 5, 0), (18, 6, 0), (18, 7, 0), (18, 8, 0)])))))))))))))
def adO (g : Wg) (t k i : Nat) : Nat := match t with
  | 20 => (gX g).1
  | 21 => gT g (10 + k)
  | 22 => gT g k
  | 23 => gT g (20 + k)
  | _ => gB g + ordO t k i
def vvO (g : Wg) (v : Vl) : Value := match v with
  | .inl x => .int x
  | .inr (.inl x) => .long x
  | .inr (.inr (t, k, i)) => match t with
    | 0 => .null
    | 25 => va_rf (gF g)
    | _ => .ref (adO g t k i)
/-- the fields that hold references -/
def refO (t k : Nat) (j : Nat) : Option Rf := match t with
  | 1 => match j with
    | 0 => some (2, 0, 0)
    | 1 => some (2, 1, 0)
    | 2 => some (10, 0, 0)
    | 3 => some (12, 0, 0)
    | 4 => some (13, 0, 0)
    | _ => some (14, 0, 0)
  | 2 => match j with
    | 0 => some (3, k, 0)
    | 1 => some (4, k, 0)
    | 2 => some (5, k, 0)
    | 3 => some (6, k, 0)
    | _ => none
  | 10 => match j with
    | 0 => some (11, 0, 0)
    | _ => none
  | 14 => match j with
    | 0 => some (15, 0, 0)
    | 4 => some (16, 0, 0)
    | _ => none
  | 17 => match j with
    | 0 => some (18, 0, 0)
    | 1 => some (18, 1, 0)
    | 2 => some (18, 2, 0)
    | 5 => some (18, 3, 0)
    | 6 => some (19, 0, 0)
    | 7 => some (18, 4, 0)
    | 9 => some (18, 5, 0)
    | 10 => some (18, 6, 0)
    | 11 => some (18, 7, 0)
    | 14 => some (18, 8, 0)
    | _ => none
  | _ => none
def fvO (mem : Mm) (t k i j : Nat) : Vl := match refO t k j with
  | some r => .inr (.inr r)
  | none => .inl (mem (t, k, i) j)
/-- the class of an object, 99: it is an array -/
def ciO (t : Nat) : Nat := match t with
  | 1 => 0
  | 2 => 1
  | 7 => 2
  | 8 => 3
  | 9 => 4
  | 10 => 5
  | 14 => 6
  | 17 => 7
  | _ => 99
def nfO (ci : Nat) : Nat := match ci with
  | 0 => 6
  | 1 => 12
  | 2 => 4
  | 3 => 5
  | 4 => 14
  | 5 => 3
  | 6 => 6
  | 7 => 15
  | _ => 0
/-- the type of an array, by its place in tysO -/
def tyO (t : Nat) : Nat := match t with
  | 3 => 0
  | 4 => 3
  | 5 => 4
  | 6 => 5
  | 11 => 6
  | 12 => 6
  | 13 => 1
  | 15 => 2
  | 16 => 0
  | 18 => 0
  | 19 => 1
  | _ => 99
def lenO (t k : Nat) : Nat := match t with
  | 3 => 5
  | 4 => 5
  | 5 => 13
  | 6 => 24
  | 11 => 7
  | 12 => 2
  | 13 => 2
  | 15 => 80
  | 16 => 4
  | 18 => match k with
    | 0 => 429
    | 1 => 429
    | 2 => 2574
    | 3 => 858
    | 4 => 80
    | 5 => 5
    | 6 => 24
    | 7 => 24
    | _ => 4
  | 19 => 2
  | _ => 0
def elO (t k j : Nat) : Rf := match t with
  | 4 => (7, k, j)
  | 5 => (8, k, j)
  | 6 => (9, k, j)
  | 11 => (2, 2 + j, 0)
  | _ => (2, 9 + j, 0)
def isQ (t : Nat) : Bool := match t with
  | 4 => true
  | 5 => true
  | 6 => true
  | 11 => true
  | 12 => true
  | _ => false
def isP (t : Nat) : Bool := match t with
  | 3 => true
  | 16 => true
  | 18 => true
  | _ => false
def isZ (t : Nat) : Bool := match t with
  | 13 => true
  | 19 => true
  | _ => false
def fldO (g : Wg) (mem : Mm) (t k i n : Nat) : List Value := (List.range n).map (fun j => vvO g (fvO mem t k i j))
def cellO (g : Wg) (mem : Mm) (o : Rf) : va_E := match ciO o.1 with
  | 99 => match isQ o.1 with
    | true => .inl (gC g (tyO o.1), lenO o.1 o.2.1, .inr (.inr (.inr (.inr (fun j => match elO o.1 o.2.1 j with
      | (t, k, i) => some (adO g t k i))))))
    | false => .inl (gC g (tyO o.1), lenO o.1 o.2.1, .inl (mem o))
  | ci => .inr (ci, fldO g mem o.1 o.2.1 o.2.2 (nfO ci))
def wsO (g : Wg) (mem : Mm) : va_W := allR.map (fun o => (adO g o.1 o.2.1 o.2.2, cellO g mem o))
def mset (mem : Mm) (t k i j : Nat) (x : Int32) : Mm := fun o => if o = (t, k, i) then upd (mem o) j x else mem o
theorem mset_at (mem : Mm) (t k i j : Nat) (x : Int32) : mset mem t k i j x (t, k, i) = upd (mem (t, k, i)) j x := if_pos rfl
theorem mset_ne (mem : Mm) (t k i j : Nat) (x : Int32) {o : Rf} (h : o ≠ (t, k, i)) : mset mem t k i j x o = mem o := if_neg h
set_option maxRecDepth 100000 in
theorem allR_len : allR.length = 536 := by decide +kernel
set_option maxRecDepth 100000 in
theorem allR_ord : ∀ n, n < 536 → (allR[n]?).map (fun o => ordO o.1 o.2.1 o.2.2) = some n := by decide +kernel
set_option maxRecDepth 100000 in
theorem allR_tag : ∀ n, n < 536 → (allR[n]?).map (fun o => Nat.blt o.1 20) = some true := by decide +kernel
set_option maxRecDepth 100000 in
theorem allR_at0 : ∀ t, t < 20 → ∀ k, k < 11 → ∀ i, i < 24 → (!okO t k i || decide (allR[ordO t k i]? = some (t, k, i))) = true := by decide +kernel
theorem okO_lt {t k i : Nat} (h : okO t k i = true) : t < 20 ∧ k < 11 ∧ i < 24 := by
  unfold okO at h
  split at h <;> simp [Nat.blt, Nat.ble_eq] at h <;> omega
theorem allR_at {t k i : Nat} (h : okO t k i = true) : allR[ordO t k i]? = some (t, k, i) := by
  obtain ⟨h1, h2, h3⟩ := okO_lt h
  have h4 := allR_at0 t h1 k h2 i h3
  rw [h] at h4
  exact of_decide_eq_true h4
theorem okO_ad {g : Wg} {t k i : Nat} (h : t < 20) : adO g t k i = gB g + ordO t k i := by
  unfold adO
  split <;> first | rfl | omega
theorem wsO_at {g : Wg} {mem : Mm} {t k i : Nat} (h : okO t k i = true) : (wsO g mem)[ordO t k i]? = some (adO g t k i, cellO g mem (t, k, i)) := by
  unfold wsO
  rw [List.getElem?_map, allR_at h]
  rfl
theorem wsO_D (g : Wg) (mem : Mm) : va_D (gA g) (wsO g mem) := by
  have key : ∀ (n : Nat) (q : Nat × va_E), (wsO g mem)[n]? = some q → q.1 = gB g + n := by
    intro n q h
    unfold wsO at h
    rw [List.getElem?_map] at h
    cases ho : allR[n]? with
    | none => rw [ho] at h; cases h
    | some o =>
      rw [ho] at h
      cases h
      have hn : n < 536 := by
        have := (List.getElem?_eq_some_iff.mp ho).1
        rw [allR_len] at this
        exact this
      have h1 := allR_ord n hn
      have h2 := allR_tag n hn
      rw [ho] at h1 h2
      have h3 : o.1 < 20 := by
        have h4 := Option.some.inj h2
        exact Nat.le_of_ble_eq_true h4
      show adO g o.1 o.2.1 o.2.2 = _
      rw [okO_ad h3]
      exact congrArg (fun z => gB g + z) (Option.some.inj h1)
  refine ⟨fun i j p q hp hq e => ?_, fun k q hq => ?_⟩
  · have h1 := key i p hp
    have h2 := key j q hq
    omega
  · have h1 := key k q hq
    show gB g ≤ q.1
    omega
theorem allR_inj {n : Nat} {o : Rf} (ho : allR[n]? = some o) : ordO o.1 o.2.1 o.2.2 = n := by
  have hn : n < 536 := by
    have := (List.getElem?_eq_some_iff.mp ho).1
    rw [allR_len] at this
    exact this
  have h1 := allR_ord n hn
  rw [ho] at h1
  exact Option.some.inj h1
theorem cellO_congr {g : Wg} {m1 m2 : Mm} {o : Rf} (h : m1 o = m2 o) : cellO g m1 o = cellO g m2 o := by
  have h2 : ∀ j, fvO m1 o.1 o.2.1 o.2.2 j = fvO m2 o.1 o.2.1 o.2.2 j := by
    intro j
    unfold fvO
    have h3 : m1 (o.1, o.2.1, o.2.2) = m2 (o.1, o.2.1, o.2.2) := h
    rw [h3]
  unfold cellO fldO
  simp only [h2, h]
/-- a world with one cell changed is the world of the memory with that object changed -/
theorem wsO_set {g : Wg} {mem mem' : Mm} {t k i : Nat} (h : okO t k i = true) (hne : ∀ o : Rf, o ≠ (t, k, i) → mem' o = mem o) {c : va_E} (hc : cellO g mem' (t, k, i) = c) : (wsO g mem).set (ordO t k i) (adO g t k i, c) = wsO g mem' := by
  subst hc
  apply List.ext_getElem?
  intro n
  by_cases hn : n = ordO t k i
  · subst hn
    rw [wsO_at h]
    rw [List.getElem?_set_self (List.getElem?_eq_some_iff.mp (wsO_at (g := g) (mem := mem) h)).1]
  · rw [List.getElem?_set_ne (Ne.symm hn)]
    unfold wsO
    rw [List.getElem?_map, List.getElem?_map]
    cases ho : allR[n]? with
    | none => rfl
    | some o =>
      have h1 := allR_inj ho
      have h2 : o ≠ (t, k, i) := by
        intro e
        rw [e] at h1
        exact hn h1.symm
      show some (adO g o.1 o.2.1 o.2.2, cellO g mem o) = some (adO g o.1 o.2.1 o.2.2, cellO g mem' o)
      rw [cellO_congr (hne o h2)]
theorem fldO_get {g : Wg} {mem : Mm} {t k i n j : Nat} (h : j < n) : (fldO g mem t k i n)[j]? = some (vvO g (fvO mem t k i j)) := by
  unfold fldO
  rw [List.getElem?_map, List.getElem?_range h]
  rfl
theorem fldO_len {g : Wg} {mem : Mm} {t k i n : Nat} : (fldO g mem t k i n).length = n := by simp [fldO]
theorem fldO_set {g : Wg} {mem : Mm} {t k i n j : Nat} {x : Int32} (hr : refO t k j = none) (h : j < n) : (fldO g mem t k i n).set j (.int x) = fldO g (mset mem t k i j x) t k i n := by
  apply List.ext_getElem?
  intro m
  by_cases hm : m < n
  · rw [fldO_get hm]
    by_cases hj : m = j
    · subst hj
      rw [List.getElem?_set_self (by rw [fldO_len]; exact hm)]
      simp [fvO, hr, mset_at, upd, vvO]
    · rw [List.getElem?_set_ne (Ne.symm hj), fldO_get hm]
      simp [fvO, mset_at, upd, hj]
  · rw [List.getElem?_eq_none (by rw [List.length_set, fldO_len]; omega), List.getElem?_eq_none (by rw [fldO_len]; omega)]
theorem okV_ref {mem : Mm} {t k i j : Nat} (h : okO t k i = true) : okV (fvO mem t k i j) := by
  unfold fvO
  cases hr : refO t k j with
  | none => trivial
  | some r =>
    unfold refO at hr
    split at hr <;> (try cases hr) <;> (split at hr) <;> (try cases hr) <;> simp_all [okV, okR, okO]
theorem okV_el {t k i j : Nat} (h : okO t k i = true) (hq : isQ t = true) (hj : j < lenO t k) : okV (.inr (.inr (elO t k j))) := by
  unfold isQ at hq
  split at hq <;> simp_all [okV, okR, okO, elO, lenO, Nat.blt, Nat.ble_eq] <;> omega
end
section
/-! THE WORLD: the tables of the classes, what lies outside, the cells; contracts in these words -/
def clsN (ci : Nat) : String := match ci with
  | 0 => "NurseryPlaces"
  | 1 => "NurseryPlaces$State"
  | 2 => "NurseryPlaces$Room"
  | 3 => "NurseryPlaces$Carer"
  | 4 => "NurseryPlaces$Child"
  | 5 => "NurseryPlaces$History"
  | 6 => "NurseryPlaces$Pad"
  | 7 => "NurseryPlacesModel"
  | _ => "java/lang/String"
def clsT (ci : Nat) : u_T := fun j => match ci with
  | 0 => match j with
    | 0 => ("NurseryPlaces", "now", "LNurseryPlaces$State;", true)
    | 1 => ("NurseryPlaces", "trial", "LNurseryPlaces$State;", true)
    | 2 => ("NurseryPlaces", "history", "LNurseryPlaces$History;", true)
    | 3 => ("NurseryPlaces", "slots", "[LNurseryPlaces$State;", true)
    | 4 => ("NurseryPlaces", "isSaved", "[Z", true)
    | _ => ("NurseryPlaces", "pad", "LNurseryPlaces$Pad;", true)
  | 1 => match j with
    | 0 => ("NurseryPlaces$State", "settings", "[I", true)
    | 1 => ("NurseryPlaces$State", "rooms", "[LNurseryPlaces$Room;", true)
    | 2 => ("NurseryPlaces$State", "carers", "[LNurseryPlaces$Carer;", true)
    | 3 => ("NurseryPlaces$State", "children", "[LNurseryPlaces$Child;", true)
    | 4 => ("NurseryPlaces$State", "roomCount", "I", false)
    | 5 => ("NurseryPlaces$State", "carerCount", "I", false)
    | 6 => ("NurseryPlaces$State", "childCount", "I", false)
    | 7 => ("NurseryPlaces$State", "week", "I", false)
    | 8 => ("NurseryPlaces$State", "placings", "I", false)
    | 9 => ("NurseryPlaces$State", "paid", "I", false)
    | 10 => ("NurseryPlaces$State", "visitsHeld", "I", false)
    | _ => ("NurseryPlaces$State", "timesSentHome", "I", false)
  | 2 => match j with
    | 0 => ("NurseryPlaces$Room", "from", "I", false)
    | 1 => ("NurseryPlaces$Room", "to", "I", false)
    | 2 => ("NurseryPlaces$Room", "capacity", "I", false)
    | _ => ("NurseryPlaces$Room", "ratio", "I", false)
  | 3 => match j with
    | 0 => ("NurseryPlaces$Carer", "room", "I", false)
    | 1 => ("NurseryPlaces$Carer", "days", "I", false)
    | 2 => ("NurseryPlaces$Carer", "from", "I", false)
    | 3 => ("NurseryPlaces$Carer", "to", "I", false)
    | _ => ("NurseryPlaces$Carer", "isSick", "Z", false)
  | 4 => match j with
    | 0 => ("NurseryPlaces$Child", "age", "I", false)
    | 1 => ("NurseryPlaces$Child", "family", "I", false)
    | 2 => ("NurseryPlaces$Child", "wish", "I", false)
    | 3 => ("NurseryPlaces$Child", "state", "I", false)
    | 4 => ("NurseryPlaces$Child", "room", "I", false)
    | 5 => ("NurseryPlaces$Child", "sessions", "I", false)
    | 6 => ("NurseryPlaces$Child", "isSettled", "Z", false)
    | 7 => ("NurseryPlaces$Child", "visits", "I", false)
    | 8 => ("NurseryPlaces$Child", "plannedVisit", "I", false)
    | 9 => ("NurseryPlaces$Child", "sessionsHeld", "I", false)
    | 10 => ("NurseryPlaces$Child", "timesSentHome", "I", false)
    | 11 => ("NurseryPlaces$Child", "paid", "I", false)
    | 12 => ("NurseryPlaces$Child", "waitingSince", "I", false)
    | _ => ("NurseryPlaces$Child", "placing", "I", false)
  | 5 => match j with
    | 0 => ("NurseryPlaces$History", "rows", "[LNurseryPlaces$State;", true)
    | 1 => ("NurseryPlaces$History", "oldest", "I", false)
    | _ => ("NurseryPlaces$History", "size", "I", false)
  | 6 => match j with
    | 0 => ("NurseryPlaces$Pad", "signs", "[C", true)
    | 1 => ("NurseryPlaces$Pad", "length", "I", false)
    | 2 => ("NurseryPlaces$Pad", "cursor", "I", false)
    | 3 => ("NurseryPlaces$Pad", "kind", "C", false)
    | 4 => ("NurseryPlaces$Pad", "numbers", "[I", true)
    | _ => ("NurseryPlaces$Pad", "numberCount", "I", false)
  | 7 => match j with
    | 0 => ("NurseryPlacesModel", "v", "[I", true)
    | 1 => ("NurseryPlacesModel", "spare", "[I", true)
    | 2 => ("NurseryPlacesModel", "history", "[I", true)
    | 3 => ("NurseryPlacesModel", "states", "I", false)
    | 4 => ("NurseryPlacesModel", "isQuiet", "Z", false)
    | 5 => ("NurseryPlacesModel", "slots", "[I", true)
    | 6 => ("NurseryPlacesModel", "isSaved", "[Z", true)
    | 7 => ("NurseryPlacesModel", "pad", "[I", true)
    | 8 => ("NurseryPlacesModel", "length", "I", false)
    | 9 => ("NurseryPlacesModel", "highest", "[I", true)
    | 10 => ("NurseryPlacesModel", "took", "[I", true)
    | 11 => ("NurseryPlacesModel", "home", "[I", true)
    | 12 => ("NurseryPlacesModel", "place", "I", false)
    | 13 => ("NurseryPlacesModel", "letter", "I", false)
    | _ => ("NurseryPlacesModel", "numbers", "[I", true)
  | _ => ("", "", "", false)
def clsF (ci j : Nat) : FieldType := match ci with
  | 0 => match j with
    | 0 => .object "NurseryPlaces$State"
    | 1 => .object "NurseryPlaces$State"
    | 2 => .object "NurseryPlaces$History"
    | 3 => .array (.object "NurseryPlaces$State")
    | 4 => .array .boolean
    | _ => .object "NurseryPlaces$Pad"
  | 1 => match j with
    | 0 => .array .int
    | 1 => .array (.object "NurseryPlaces$Room")
    | 2 => .array (.object "NurseryPlaces$Carer")
    | 3 => .array (.object "NurseryPlaces$Child")
    | 4 => .int
    | 5 => .int
    | 6 => .int
    | 7 => .int
    | 8 => .int
    | 9 => .int
    | 10 => .int
    | _ => .int
  | 2 => match j with
    | 0 => .int
    | 1 => .int
    | 2 => .int
    | _ => .int
  | 3 => match j with
    | 0 => .int
    | 1 => .int
    | 2 => .int
    | 3 => .int
    | _ => .boolean
  | 4 => match j with
    | 0 => .int
    | 1 => .int
    | 2 => .int
    | 3 => .int
    | 4 => .int
    | 5 => .int
    | 6 => .boolean
    | 7 => .int
    | 8 => .int
    | 9 => .int
    | 10 => .int
    | 11 => .int
    | 12 => .int
    | _ => .int
  | 5 => match j with
    | 0 => .array (.object "NurseryPlaces$State")
    | 1 => .int
    | _ => .int
  | 6 => match j with
    | 0 => .array .char
    | 1 => .int
    | 2 => .int
    | 3 => .char
    | 4 => .array .int
    | _ => .int
  | 7 => match j with
    | 0 => .array .int
    | 1 => .array .int
    | 2 => .array .int
    | 3 => .int
    | 4 => .boolean
    | 5 => .array .int
    | 6 => .array .boolean
    | 7 => .array .int
    | 8 => .int
    | 9 => .array .int
    | 10 => .array .int
    | 11 => .array .int
    | 12 => .int
    | 13 => .int
    | _ => .array .int
  | _ => .int
def clsL : List vw_C := (List.range 8).map (fun ci => (clsN ci, clsT ci, nfO ci))
def arrT (q : Nat) : FieldType := match q with
  | 0 => .int
  | 1 => .boolean
  | 2 => .char
  | 3 => .object "NurseryPlaces$Room"
  | 4 => .object "NurseryPlaces$Carer"
  | 5 => .object "NurseryPlaces$Child"
  | _ => .object "NurseryPlaces$State"
def tysO (g : Wg) : List (ClassId × FieldType) := (List.range 7).map (fun q => (gC g q, arrT q))
theorem clsL_at {ci : Nat} (h : ci < 8) : clsL[ci]? = some (clsN ci, clsT ci, nfO ci) := by
  unfold clsL
  rw [List.getElem?_map, List.getElem?_range h]
  rfl
theorem tysO_at {g : Wg} {q : Nat} (h : q < 7) : (tysO g)[q]? = some (gC g q, arrT q) := by
  unfold tysO
  rw [List.getElem?_map, List.getElem?_range h]
  rfl
/-- the words of the tables that stay true -/
def keepW (w : Cond) : Bool := w.onTables && (w.keeps || match w with
  | .methodLinkNest .. => true
  | .fieldLinkNest .. => true
  | _ => false)
def InT (w : Cond) : Prop := w ∈ lw_tbl ∧ keepW w = true
def Tb (U : State) : Prop := ∀ w, InT w → va_Nw w U
theorem Tb.use {U : State} (h : Tb U) {w : Cond} (hw : InT w) {A : Array Value} : w.before A U = true := va_Nw.use (by
  have h2 := hw.2
  unfold keepW at h2
  simp only [Bool.and_eq_true] at h2
  exact h2.1) (h w hw)
theorem Tb.warm {s U : State} (hW : s.WarmedH U.vm) (h : Tb s) : Tb U := by
  intro w hw
  have h0 := h w hw
  have h2 := hw.2
  unfold keepW at h2
  simp only [Bool.and_eq_true, Bool.or_eq_true] at h2
  obtain ⟨h3, h4⟩ := h2
  rcases h4 with h4 | h4
  · exact word_at hW (Or.inl (by rw [h3, h4]; rfl)) h0
  · cases w <;> first | (cases h4; done) | exact va_Nw.warmM hW h0 | exact va_Nw.warmF hW h0
theorem Tb.same {u U : State} (hv : u.vm = U.vm) (h : Tb u) : Tb U := fun w hw => va_Nw.same (by
  have h2 := hw.2
  unfold keepW at h2
  simp only [Bool.and_eq_true] at h2
  exact h2.1) hv (h w hw)
theorem Tb.of {s : State} {A : Array Value} (h : ∀ w ∈ lw_tbl, w.before A s = true) : Tb s := fun w hw => va_Nw.of (by
  have h2 := hw.2
  unfold keepW at h2
  simp only [Bool.and_eq_true] at h2
  exact h2.1) (h w hw.1)
theorem InT.of {w : Cond} (i : Nat) (h : lw_tbl[i]? = some w) (h2 : keepW w = true) : InT w := ⟨List.mem_of_getElem? h, h2⟩
set_option maxRecDepth 100000 in
theorem cls_in : ∀ ci, ci < 8 → (u_ws (clsN ci) (clsT ci) (nfO ci)).all (fun w => decide (w ∈ lw_tbl) && keepW w) = true := by decide +kernel
theorem cls_InT {ci : Nat} (h : ci < 8) : ∀ w ∈ u_ws (clsN ci) (clsT ci) (nfO ci), InT w := by
  intro w hw
  have h1 := List.all_eq_true.mp (cls_in ci h) w hw
  simp only [Bool.and_eq_true, decide_eq_true_eq] at h1
  exact h1
theorem cls_ty0 : ∀ ci, ci < 8 → ∀ k, k < nfO ci → parseFieldDescriptor (clsT ci k).2.2.1 = some (clsF ci k) := by decide +kernel
theorem cls_nm0 : ∀ ci, ci < 8 → ∀ a, a < nfO ci → ∀ b, b < nfO ci → a ≠ b → (clsT ci a).2.1 ≠ (clsT ci b).2.1 := by decide +kernel
def strP (k : Nat) : Nat := match k with
  | 0 => 70
  | 1 => 72
  | 2 => 74
  | 3 => 76
  | _ => 78
def strX (k : Nat) : String := match k with
  | 0 => "N/N:N"
  | 1 => "N@D"
  | 2 => "N@D=N@D"
  | 3 => "N"
  | _ => ""
def strB (k : Nat) : List Int32 := match k with
  | 0 => [78, 47, 78, 58, 78]
  | 1 => [78, 64, 68]
  | 2 => [78, 64, 68, 61, 78, 64, 68]
  | 3 => [78]
  | _ => []
def strN (k : Nat) : Nat := match k with
  | 0 => 5
  | 1 => 3
  | 2 => 7
  | 3 => 1
  | _ => 0
/-- the two static arrays -/
def staV (k j : Nat) : Int32 := match k with
  | 0 => match j with
    | 2 => 1
    | _ => 0
  | _ => match j with
    | 0 => 10000
    | 1 => 100
    | 2 => 10
    | 3 => 9
    | _ => 99
/-- what lies outside: nobody writes it -/
def Ext (g : Wg) (U : State) (H : Heap) : Prop :=
  va_Z "NurseryPlaces" "LOWEST_SETTING" "[I" (.ref (gT g 0)) (gA g) U H ∧ va_Z "NurseryPlaces" "HIGHEST_SETTING" "[I" (.ref (gT g 1)) (gA g) U H ∧
  va_T .int (gT g 0) 5 (fun j => .int (staV 0 j)) (gA g) U H ∧ va_T .int (gT g 1) 5 (fun j => .int (staV 1 j)) (gA g) U H ∧
  va_Z "java/lang/String" "COMPACT_STRINGS" "Z" (.int 1) (gA g) U H ∧ va_Z "jdk/internal/util/Preconditions" "SIOOBE_FORMATTER" "Ljava/util/function/BiFunction;" (va_rf (gF g)) (gA g) U H ∧
  vk_S 5 [5, 3, 7, 1, 0] [strB 0, strB 1, strB 2, strB 3, strB 4] (fun i => gT g (10 + i)) (fun i => gT g (20 + i)) (gA g) U H ∧
  (∀ k, k < 5 → vk_R "NurseryPlaces$Pad" (strP k) (strX k) (gT g (10 + k)) U) ∧ (va_X (gX g).1 (gX g).2.1 (gX g).2.2 U H ∧ (gX g).1 < H.size ∧ ¬ gA g (gX g).1)
theorem Ext.warm {g : Wg} {s U : State} {H H1 : Heap} (hW : s.WarmedH U.vm) (hq : ∀ a : Nat, a < H.size → ¬ gA g a → H1[a]? = H[a]?) (hz : H.size ≤ H1.size) (h : Ext g s H) : Ext g U H1 := by
  obtain ⟨h1, h2, h3, h4, h5, h6, h7, h8, h9, h10, h11⟩ := h
  have hv := hW.alike
  exact ⟨(h1.moved hv).kept hq, (h2.moved hv).kept hq, (h3.moved hv).kept hq, (h4.moved hv).kept hq, (h5.moved hv).kept hq, (h6.moved hv).kept hq, (h7.moved hv).kept hq, fun k hk => (h8 k hk).warm hW, (h9.moved hv).kept (hq _ h10 h11), Nat.lt_of_lt_of_le h10 hz, h11⟩
/-- the world of a memory, in a state -/
def wdO (g : Wg) (mem : Mm) (U : State) : Prop := va_P (gD g) clsL (wsO g mem) U.heap ∧ va_K (gD g) clsL (tysO g) U ∧ Tb U ∧ Ext g U U.heap
theorem wdO.warm {g : Wg} {mem mem' : Mm} {s U : State} {H : Heap} {locs : List Loc} (hW : s.WarmedH U.vm) (hU : U.heap = H) (hP : va_P (gD g) clsL (wsO g mem') H) (hS : va_S (gA g) s.heap H locs) (hK : va_K (gD g) clsL (tysO g) s) (hT : Tb s) (hE : Ext g s s.heap) : wdO g mem' U :=
  ⟨by rw [hU]; exact hP, va_K.moved hW.alike hK, hT.warm hW, hE.warm hW (by rw [hU]; exact hS.2.1) (by rw [hU]; exact hS.1)⟩
theorem wdO.calling {g : Wg} {mem : Mm} {U : State} {f : JFrame} {mk : MethodId} {a : Array Value} (h : wdO g mem U) : wdO g mem (U.calling f mk a) := by
  obtain ⟨h1, h2, h3, h4⟩ := h
  exact ⟨h1, va_K.moved (u := U) (U := U.calling f mk a) (Vm.Alike.refl U.vm) h2, Tb.same (u := U) rfl h3, Ext.warm (s := U) (U := U.calling f mk a) (State.WarmedH.refl U) (fun _ _ _ => rfl) (Nat.le_refl _) h4⟩
/-- a method's head: name, bytes, locals, answer, frames and words of locals that it needs, arguments (the receiver counts) -/
abbrev Hd : Type := MethodName × ByteArray × Nat × Option FieldType × Nat × Nat × Nat
abbrev hY (h : Hd) : MethodName := h.1
abbrev hB (h : Hd) : ByteArray := h.2.1
abbrev hM (h : Hd) : Nat := h.2.2.1
abbrev hR (h : Hd) : Option FieldType := h.2.2.2.1
abbrev hF (h : Hd) : Nat := h.2.2.2.2.1
abbrev hL (h : Hd) : Nat := h.2.2.2.2.2.1
abbrev hN (h : Hd) : Nat := h.2.2.2.2.2.2
def PcO (g : Wg) (as : List Vl) (mem : Mm) : Array Value → State → Prop := fun v U => v = (as.map (vvO g)).toArray ∧ wdO g mem U
def okA (r : Option Vl) : Prop := match r with
  | some v => okV v
  | none => True
def QcO (g : Wg) (Q : Option Vl → Mm → Prop) : Array Value → State → Outcome → State → Prop := fun _ st oc t =>
  (∃ (r : Option Vl) (m' : Mm), oc = .returned (r.map (vvO g)) ∧ Q r m' ∧ okA r ∧ wdO g m' t) ∧ va_F (gA g) st t
/-- the contract of a method, in the small machine's words -/
def Runs (g : Wg) (h : Hd) (as : List Vl) (mem : Mm) (Q : Option Vl → Mm → Prop) : Prop :=
  Met (gL g) (hY h) [Cond.code (hY h) (hB h) (hM h) (hR h)] { frames := hF h, cells := 0, slots := 0, locals := hL h } (PcO g as mem) (QcO g Q) 0 0 (gA g)
theorem PcO.blind {g : Wg} {as : List Vl} {mem : Mm} : FrameBlind (PcO g as mem) := fun _ _ _ _ h => ⟨h.1, h.2.calling⟩
end
